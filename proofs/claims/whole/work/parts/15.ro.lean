/-! what is only read: words of the enum, Strings, the table of jumps -/
theorem ro_wz {K : Nat → Nat} {j : Nat} (hj : j < 23) : ("WhistleRoster$Word", wnames.getD j "", "LWhistleRoster$Word;", Value.ref (K (100 + j))) ∈ ro_Z K := List.mem_append_right _ (List.mem_map.mpr ⟨j, List.mem_range.mpr hj, rfl⟩)
theorem ro_w4 (K : Nat → Nat) : ("WhistleRoster$Word", "AT", "LWhistleRoster$Word;", Value.ref (K (100 + 4))) ∈ ro_Z K := ro_wz (j := 4) (by decide)
theorem ro_w5 (K : Nat → Nat) : ("WhistleRoster$Word", "NO", "LWhistleRoster$Word;", Value.ref (K (100 + 5))) ∈ ro_Z K := ro_wz (j := 5) (by decide)
theorem ro_w7 (K : Nat → Nat) : ("WhistleRoster$Word", "TO", "LWhistleRoster$Word;", Value.ref (K (100 + 7))) ∈ ro_Z K := ro_wz (j := 7) (by decide)
theorem ro_w9 (K : Nat → Nat) : ("WhistleRoster$Word", "ON", "LWhistleRoster$Word;", Value.ref (K (100 + 9))) ∈ ro_Z K := ro_wz (j := 9) (by decide)
theorem ro_w10 (K : Nat → Nat) : ("WhistleRoster$Word", "FOR", "LWhistleRoster$Word;", Value.ref (K (100 + 10))) ∈ ro_Z K := ro_wz (j := 10) (by decide)
theorem ro_w15 (K : Nat → Nat) : ("WhistleRoster$Word", "GRADE", "LWhistleRoster$Word;", Value.ref (K (100 + 15))) ∈ ro_Z K := ro_wz (j := 15) (by decide)
theorem ro_w11 (K : Nat → Nat) : ("WhistleRoster$Word", "BY", "LWhistleRoster$Word;", Value.ref (K (100 + 11))) ∈ ro_Z K := ro_wz (j := 11) (by decide)
theorem ro_z0 (K : Nat → Nat) : ("WhistleRoster$Word", "ALL", "[LWhistleRoster$Word;", Value.ref (K 0)) ∈ ro_Z K := List.mem_append_left _ List.mem_cons_self
theorem ro_z1 (K : Nat → Nat) : ("WhistleRoster$1", "$SwitchMap$WhistleRoster$Word", "[I", Value.ref (K 1)) ∈ ro_Z K := List.mem_append_left _ (List.mem_cons_of_mem _ List.mem_cons_self)
theorem ro_z3 (K : Nat → Nat) : ("java/lang/String", "COMPACT_STRINGS", "Z", Value.int 1) ∈ ro_Z K := List.mem_append_left _ (List.mem_cons_of_mem _ (List.mem_cons_of_mem _ (List.mem_cons_of_mem _ List.mem_cons_self)))
theorem ro_z4 (K : Nat → Nat) : ("jdk/internal/util/Preconditions", "SIOOBE_FORMATTER", "Ljava/util/function/BiFunction;", if K 4 = 0 then Value.null else .ref (K 3)) ∈ ro_Z K := List.mem_append_left _ (List.mem_cons_of_mem _ (List.mem_cons_of_mem _ (List.mem_cons_of_mem _ (List.mem_cons_of_mem _ List.mem_cons_self))))
theorem ro_t0 (K : Nat → Nat) : (FieldType.object "WhistleRoster$Word", K 0, 23, fun j : Nat => Value.ref (K (100 + j))) ∈ ro_T K := List.mem_append_left _ (List.mem_cons_of_mem _ List.mem_cons_self)
theorem ro_t1 (K : Nat → Nat) : (FieldType.int, K 1, 23, fun j : Nat => Value.int (wjumps.getD j 0)) ∈ ro_T K := List.mem_append_left _ (List.mem_cons_of_mem _ (List.mem_cons_of_mem _ List.mem_cons_self))
theorem ro_ts {K : Nat → Nat} {i : Nat} (hi : i < 23) : (FieldType.byte, K (300 + i), slens.getD i 0, fun j : Nat => Value.int ((sbyts.getD i []).getD j 0)) ∈ ro_T K := List.mem_append_right _ (List.mem_map.mpr ⟨i, List.mem_range.mpr hi, rfl⟩)
theorem ro_fc {K : Nat → Nat} {j : Nat} (hj : j < 23) : ("WhistleRoster$Word", "code", "I", Value.int (wcode j), K (100 + j)) ∈ ro_F K := List.mem_append_left _ (List.mem_map.mpr ⟨j, List.mem_range.mpr hj, rfl⟩)
theorem ro_fa {K : Nat → Nat} {j : Nat} (hj : j < 23) : ("WhistleRoster$Word", "asks", "I", Value.int (wasks j), K (100 + j)) ∈ ro_F K := List.mem_append_right _ (List.mem_append_left _ (List.mem_map.mpr ⟨j, List.mem_range.mpr hj, rfl⟩))
theorem ro_fo {K : Nat → Nat} {j : Nat} (hj : j < 23) : ("java/lang/Enum", "ordinal", "I", Value.int (Int32.ofNat j), K (100 + j)) ∈ ro_F K := List.mem_append_right _ (List.mem_append_right _ (List.mem_append_left _ (List.mem_map.mpr ⟨j, List.mem_range.mpr hj, rfl⟩)))
theorem ro_fk {K : Nat → Nat} {i : Nat} (hi : i < 23) : ("java/lang/String", "coder", "B", Value.int 0, K (200 + i)) ∈ ro_F K := List.mem_append_right _ (List.mem_append_right _ (List.mem_append_right _ (List.mem_append_left _ (List.mem_map.mpr ⟨i, List.mem_range.mpr hi, rfl⟩))))
theorem ro_fv {K : Nat → Nat} {i : Nat} (hi : i < 23) : ("java/lang/String", "value", "[B", Value.ref (K (300 + i)), K (200 + i)) ∈ ro_F K := List.mem_append_right _ (List.mem_append_right _ (List.mem_append_right _ (List.mem_append_right _ (List.mem_map.mpr ⟨i, List.mem_range.mpr hi, rfl⟩))))
theorem ro_ow {K : Nat → Nat} {j : Nat} (hj : j < 23) : ("WhistleRoster$Word", K (100 + j)) ∈ ro_O K := List.mem_append_left _ (List.mem_map.mpr ⟨j, List.mem_range.mpr hj, rfl⟩)
theorem ro_os {K : Nat → Nat} {i : Nat} (hi : i < 23) : ("java/lang/String", K (200 + i)) ∈ ro_O K := List.mem_append_right _ (List.mem_map.mpr ⟨i, List.mem_range.mpr hi, rfl⟩)
theorem ro_rs {K : Nat → Nat} {i : Nat} (hi : i < 23) : ("WhistleRosterModel", (stexts.getD i (0, "")).1, (stexts.getD i (0, "")).2, K (200 + i)) ∈ ro_R K := List.mem_append_left _ (List.mem_map.mpr ⟨i, List.mem_range.mpr hi, rfl⟩)
theorem ro_rx {K : Nat → Nat} {i : Nat} (hi : i < 4) : ("WhistleRoster", (xtexts.getD i (0, "")).1, (xtexts.getD i (0, "")).2, K (223 + i)) ∈ ro_R K := List.mem_append_right _ (List.mem_map.mpr ⟨i, List.mem_range.mpr hi, rfl⟩)
theorem ss_X12_190 (K : Nat → Nat) : (RX12, 190, "field", K (200 + 0)) ∈ ro_R K := ro_rs (i := 0) (by decide)
theorem ss_X12_196 (K : Nat → Nat) : (RX12, 196, "road", K (200 + 1)) ∈ ro_R K := ro_rs (i := 1) (by decide)
theorem ss_X12_197 (K : Nat → Nat) : (RX12, 197, "club", K (200 + 2)) ∈ ro_R K := ro_rs (i := 2) (by decide)
theorem ss_X12_199 (K : Nat → Nat) : (RX12, 199, "one", K (200 + 3)) ∈ ro_R K := ro_rs (i := 3) (by decide)
theorem ss_X12_201 (K : Nat → Nat) : (RX12, 201, "at", K (200 + 4)) ∈ ro_R K := ro_rs (i := 4) (by decide)
theorem ss_X12_203 (K : Nat → Nat) : (RX12, 203, "no", K (200 + 5)) ∈ ro_R K := ro_rs (i := 5) (by decide)
theorem ss_X12_205 (K : Nat → Nat) : (RX12, 205, "off", K (200 + 6)) ∈ ro_R K := ro_rs (i := 6) (by decide)
theorem ss_X12_206 (K : Nat → Nat) : (RX12, 206, "to", K (200 + 7)) ∈ ro_R K := ro_rs (i := 7) (by decide)
theorem ss_X12_207 (K : Nat → Nat) : (RX12, 207, "game", K (200 + 8)) ∈ ro_R K := ro_rs (i := 8) (by decide)
theorem ss_X12_208 (K : Nat → Nat) : (RX12, 208, "on", K (200 + 9)) ∈ ro_R K := ro_rs (i := 9) (by decide)
theorem ss_X12_210 (K : Nat → Nat) : (RX12, 210, "for", K (200 + 10)) ∈ ro_R K := ro_rs (i := 10) (by decide)
theorem ss_X12_212 (K : Nat → Nat) : (RX12, 212, "grade", K (200 + 11)) ∈ ro_R K := ro_rs (i := 11) (by decide)
theorem ss_X12_213 (K : Nat → Nat) : (RX12, 213, "by", K (200 + 12)) ∈ ro_R K := ro_rs (i := 12) (by decide)
theorem ss_X12_215 (K : Nat → Nat) : (RX12, 215, "rest", K (200 + 13)) ∈ ro_R K := ro_rs (i := 13) (by decide)
theorem ss_X12_217 (K : Nat → Nat) : (RX12, 217, "most", K (200 + 14)) ∈ ro_R K := ro_rs (i := 14) (by decide)
theorem ss_X12_219 (K : Nat → Nat) : (RX12, 219, "fee", K (200 + 15)) ∈ ro_R K := ro_rs (i := 15) (by decide)
theorem ss_X12_221 (K : Nat → Nat) : (RX12, 221, "need", K (200 + 16)) ∈ ro_R K := ro_rs (i := 16) (by decide)
theorem ss_X12_223 (K : Nat → Nat) : (RX12, 223, "seat", K (200 + 17)) ∈ ro_R K := ro_rs (i := 17) (by decide)
theorem ss_X12_225 (K : Nat → Nat) : (RX12, 225, "lasts", K (200 + 18)) ∈ ro_R K := ro_rs (i := 18) (by decide)
theorem ss_X12_227 (K : Nat → Nat) : (RX12, 227, "day", K (200 + 19)) ∈ ro_R K := ro_rs (i := 19) (by decide)
theorem ss_X12_229 (K : Nat → Nat) : (RX12, 229, "begins", K (200 + 20)) ∈ ro_R K := ro_rs (i := 20) (by decide)
theorem ss_X12_231 (K : Nat → Nat) : (RX12, 231, "way", K (200 + 21)) ∈ ro_R K := ro_rs (i := 21) (by decide)
theorem ss_X12_233 (K : Nat → Nat) : (RX12, 233, "form", K (200 + 22)) ∈ ro_R K := ro_rs (i := 22) (by decide)
theorem ss_X11_318 (K : Nat → Nat) : (RX11, 318, "no such shelf", K (223 + 0)) ∈ ro_R K := ro_rx (i := 0) (by decide)
theorem ss_X11_325 (K : Nat → Nat) : (RX11, 325, "no such sort, or not so many", K (223 + 1)) ∈ ro_R K := ro_rx (i := 1) (by decide)
theorem ss_X11_334 (K : Nat → Nat) : (RX11, 334, "no such shelf, place or official", K (223 + 2)) ∈ ro_R K := ro_rx (i := 2) (by decide)
theorem ss_X11_343 (K : Nat → Nat) : (RX11, 343, "no such shelf or place", K (223 + 3)) ∈ ro_R K := ro_rx (i := 3) (by decide)
theorem fw_X4_252 : Cond.fieldLink RX4 252 "WhistleRoster$Word" "asks" "I" ∈ lw_g := lw_in 2075 (by decide +kernel) rfl
theorem fw_X4_255 : Cond.fieldLink RX4 255 "WhistleRoster$Word" "code" "I" ∈ lw_g := lw_in 2074 (by decide +kernel) rfl
theorem fw_X10_104 : Cond.fieldLink RX10 104 "WhistleRoster$Word" "code" "I" ∈ lw_g := lw_in 2072 (by decide +kernel) rfl
theorem fw_Jx29ce0_7 : Cond.fieldLink RJx29ce0 7 "java/lang/Enum" "ordinal" "I" ∈ lw_g := lw_in 2073 (by decide +kernel) rfl
theorem fw_J0_9 : Cond.fieldLink RJ0 9 "java/lang/String" "value" "[B" ∈ lw_g := lw_in 2076 (by decide +kernel) rfl
theorem fw_J0_15 : Cond.fieldLink RJ0 15 "java/lang/String" "coder" "B" ∈ lw_g := lw_in 2077 (by decide +kernel) rfl
theorem fu_ord : Cond.methodLink RX4 74 ⟨"WhistleRoster$Word", "ordinal", "()I"⟩ ∈ lw_g ∧ Cond.sameMethod "WhistleRoster$Word" "java/lang/Enum" "ordinal" "()I" ∈ lw_g ∧ Cond.selects "WhistleRoster$Word" ⟨"WhistleRoster$Word", "ordinal", "()I"⟩ yJx29ce0_ordinal_8abf5 ∈ lw_g ∧ Cond.instanceMethod yJx29ce0_ordinal_8abf5 ∈ lw_g ∧ Cond.initialized "java/lang/Enum" ∈ lw_g ∧ Cond.code yJx29ce0_ordinal_8abf5 cJx29ce0_ordinal_8abf5 1 (some .int) ∈ lw_g := ⟨lw_in 606 (by decide +kernel) rfl, lw_in 607 (by decide +kernel) rfl, lw_in 609 (by decide +kernel) rfl, lw_in 610 (by decide +kernel) rfl, lw_in 127 (by decide +kernel) rfl, lw_in 611 (by decide +kernel) rfl⟩
section RO
variable {X : px_X} {G : px_D} {A : Nat → Prop} {Q : State → Prop} {pc : Nat} {L : List (Option Value)} {st rest : List Value} {h : pe_H} {sz nc ns : Nat} {cc : ByteArray} {own : String} {nL index : Nat}
theorem pr_ldcs (hC : px_C X G A cc own nL) {tx : String} {q : Nat} (hz : ∀ K, (own, index, tx, K q) ∈ ro_R K) (hd : decode cc pc = .ok (.ldc index, 2)) (kk : pw X G A Q (pc + 2) L (.ref (G.2.2 q) :: st) h sz nc ns) : pw X G A Q pc L st h sz nc ns := fun H locs ls a1 a2 a3 a4 a5 =>
  va_ldcS hC.1 hC.2.1 hC.2.2.1 (hC.2.2.2.2.2.2.1.2.2.2.2 _ (hz _)) hd (kk H locs ls a1 a2 a3 a4 a5)
theorem pr_getO (hC : px_C X G A cc own nL) {o n d : String} {v : Value} {q : Nat} (hz : (o, n, d, v, q) ∈ ro_F G.2.2) (hl : Cond.fieldLink own index o n d ∈ lw_g) (hd : decode cc pc = .ok (.getfield index, 3)) (kk : pw X G A Q (pc + 3) L (v :: st) h sz nc ns) : pw X G A Q pc L (.ref q :: st) h sz nc ns := fun H locs ls a1 a2 a3 a4 a5 =>
  vk_getf hC.1 hC.2.1 (hC.2.2.2.2.2.2.1.2.2.1 _ hz) a4 hC.2.2.1 (hC.2.2.2.1 _ hl) (fun _ z => z) hd (kk H locs ls a1 a2 a3 a4 a5)
theorem pr_getW_code (hC : px_C X G A cc own nL) (hl : Cond.fieldLink own index "WhistleRoster$Word" "code" "I" ∈ lw_g) (hd : decode cc pc = .ok (.getfield index, 3)) {j : Nat} (hj : j < 23) (kk : pw X G A Q (pc + 3) L (.int (wcode j) :: st) h sz nc ns) : pw X G A Q pc L (.ref (G.2.2 (100 + j)) :: st) h sz nc ns := pr_getO hC (ro_fc hj) hl hd kk
theorem pr_getW_asks (hC : px_C X G A cc own nL) (hl : Cond.fieldLink own index "WhistleRoster$Word" "asks" "I" ∈ lw_g) (hd : decode cc pc = .ok (.getfield index, 3)) {j : Nat} (hj : j < 23) (kk : pw X G A Q (pc + 3) L (.int (wasks j) :: st) h sz nc ns) : pw X G A Q pc L (.ref (G.2.2 (100 + j)) :: st) h sz nc ns := pr_getO hC (ro_fa hj) hl hd kk
theorem pr_getW_ordinal (hC : px_C X G A cc own nL) (hl : Cond.fieldLink own index "java/lang/Enum" "ordinal" "I" ∈ lw_g) (hd : decode cc pc = .ok (.getfield index, 3)) {j : Nat} (hj : j < 23) (kk : pw X G A Q (pc + 3) L (.int (Int32.ofNat j) :: st) h sz nc ns) : pw X G A Q pc L (.ref (G.2.2 (100 + j)) :: st) h sz nc ns := pr_getO hC (ro_fo hj) hl hd kk
theorem pr_getS_coder (hC : px_C X G A cc own nL) (hl : Cond.fieldLink own index "java/lang/String" "coder" "B" ∈ lw_g) (hd : decode cc pc = .ok (.getfield index, 3)) {j : Nat} (hj : j < 23) (kk : pw X G A Q (pc + 3) L (.int 0 :: st) h sz nc ns) : pw X G A Q pc L (.ref (G.2.2 (200 + j)) :: st) h sz nc ns := pr_getO hC (ro_fk hj) hl hd kk
theorem pr_getS_value (hC : px_C X G A cc own nL) (hl : Cond.fieldLink own index "java/lang/String" "value" "[B" ∈ lw_g) (hd : decode cc pc = .ok (.getfield index, 3)) {j : Nat} (hj : j < 23) (kk : pw X G A Q (pc + 3) L (.ref (G.2.2 (300 + j)) :: st) h sz nc ns) : pw X G A Q pc L (.ref (G.2.2 (200 + j)) :: st) h sz nc ns := pr_getO hC (ro_fv hj) hl hd kk
theorem pr_aaloadW (hC : px_C X G A cc own nL) (hd : decode cc pc = .ok (.aaload, 1)) {i : Int32} (hi : vp_in i 23) (kk : pw X G A Q (pc + 1) L (.ref (G.2.2 (100 + i.toNatClampNeg)) :: st) h sz nc ns) : pw X G A Q pc L (.int i :: .ref (G.2.2 0) :: st) h sz nc ns := fun H locs ls a1 a2 a3 a4 a5 =>
  vb_tq hC.1 hC.2.1 (hC.2.2.2.2.2.2.1.2.1 _ (ro_t0 _)) a4 hi rfl hd (kk H locs ls a1 a2 a3 a4 a5)
theorem pr_baloadS (hC : px_C X G A cc own nL) (hd : decode cc pc = .ok (.baload, 1)) {i : Int32} {j : Nat} (hj : j < 23) (hi : vp_in i (slens.getD j 0)) (kk : pw X G A Q (pc + 1) L (.int ((sbyts.getD j []).getD i.toNatClampNeg 0) :: st) h sz nc ns) : pw X G A Q pc L (.int i :: .ref (G.2.2 (300 + j)) :: st) h sz nc ns := fun H locs ls a1 a2 a3 a4 a5 =>
  va_tb hC.1 hC.2.1 (hC.2.2.2.2.2.2.1.2.1 _ (ro_ts hj)) a4 hi rfl hd (kk H locs ls a1 a2 a3 a4 a5)
theorem pr_alenS (hC : px_C X G A cc own nL) (hd : decode cc pc = .ok (.arraylength, 1)) {j : Nat} (hj : j < 23) (kk : pw X G A Q (pc + 1) L (.int (Int32.ofNat (slens.getD j 0)) :: st) h sz nc ns) : pw X G A Q pc L (.ref (G.2.2 (300 + j)) :: st) h sz nc ns := fun H locs ls a1 a2 a3 a4 a5 =>
  va_tlen hC.1 hC.2.1 (hC.2.2.2.2.2.2.1.2.1 _ (ro_ts hj)) a4 rfl hd (kk H locs ls a1 a2 a3 a4 a5)
theorem pr_alenW (hC : px_C X G A cc own nL) (hd : decode cc pc = .ok (.arraylength, 1)) (kk : pw X G A Q (pc + 1) L (.int 23 :: st) h sz nc ns) : pw X G A Q pc L (.ref (G.2.2 0) :: st) h sz nc ns := fun H locs ls a1 a2 a3 a4 a5 =>
  va_tlen hC.1 hC.2.1 (hC.2.2.2.2.2.2.1.2.1 _ (ro_t0 _)) a4 rfl hd (kk H locs ls a1 a2 a3 a4 a5)
theorem pr_callO (hC : px_C X G A cc own nL) {d0 mc0 ms0 : Nat} (hR : X.2.2.2.1 = pm_rm d0 mc0 ms0) {y : MethodName} {cc' : ByteArray} {maxL n d mc ms b : Nat} {ret : Option FieldType} {As : List Value} {post : Option Value → pe_H → Nat → Prop}
    (hq : pc_V own index y cc' maxL ret n) (hd : decode cc pc = .ok (.invokevirtual index, 3)) (hM : pm X.2.1 G d y cc' maxL ret (.ref b :: As) h sz mc ms post) (hb : (y.cls, b) ∈ ro_O G.2.2)
    (hst : st = As.reverse ++ .ref b :: rest) (hn : As.length = n) (hW : (rest.map fun v => v.category).sum ≤ 8) (hd0 : d + 1 ≤ d0) (hmc : nc + mc ≤ mc0) (hms : ns + ms ≤ ms0)
    (kk : ∀ (v : Option Value) (h1 : pe_H) (sz1 : Nat), post v h1 sz1 → pw X G A Q (pc + 3) L (v.toList ++ rest) h1 sz1 (nc + mc) (ns + ms)) : pw X G A Q pc L st h sz nc ns := by
  obtain ⟨⟨q1, q2, q3, q4, q5⟩, q6, q7⟩ := hq
  refine pr_run (aa := (Value.ref b :: As).toArray) hC (fun H locs ls a1 a2 a3 a4 a5 => ?_) kk
  have hts := hC.2.2.2.1
  have hrecv : ∃ cellB : Cell, H[b]? = some cellB ∧ cellB.vm.isStatics = false ∧ X.2.2.2.2.1.vm.findClass y.cls = some cellB.cls := by
    obtain ⟨cell, h1, h2, h3, -⟩ := (hC.2.2.2.2.2.2.1.2.2.2.1 _ hb).kept a4.2.1
    exact ⟨cell, h1, h2, h3⟩
  exact va_runV (As := As) (rest := rest) (own := own) (C := y.cls) (n := n) ⟨hC.1, hC.2.1, hC.2.2.2.2.2.2.2.2, hC.2.2.1, hts⟩ hM ⟨callB_of n hts (lw_goodIn rfl q3) rfl rfl rfl (hts _ q2) (hts _ q1) q4 (by rw [hR]; exact ⟨hd0, by show 8 + (maxL + 11) + 40 * d ≤ 40 * d0; omega⟩), hts _ q6, hts _ q7⟩ ⟨pm_blind, hrecv, pm_pre hC a1 a2 a3 a4⟩ rfl hn (by rw [← hC.2.2.2.2.2.2.2.2]; exact a5.1) hst (lv_room hW) hd (by rw [hR]; exact ⟨hmc, hms⟩)
theorem pr_callOrd (hC : px_C X G A cc RX4 nL) {d0 mc0 ms0 : Nat} (hR : X.2.2.2.1 = pm_rm d0 mc0 ms0) {d mc ms j : Nat} {post : Option Value → pe_H → Nat → Prop}
    (hd : decode cc pc = .ok (.invokevirtual 74, 3)) (hj : j < 23) (hM : pm X.2.1 G d yJx29ce0_ordinal_8abf5 cJx29ce0_ordinal_8abf5 1 (some .int) (.ref (G.2.2 (100 + j)) :: []) h sz mc ms post)
    (hst : st = .ref (G.2.2 (100 + j)) :: rest) (hW : (rest.map fun v => v.category).sum ≤ 8) (hd0 : d + 1 ≤ d0) (hmc : nc + mc ≤ mc0) (hms : ns + ms ≤ ms0)
    (kk : ∀ (v : Option Value) (h1 : pe_H) (sz1 : Nat), post v h1 sz1 → pw X G A Q (pc + 3) L (v.toList ++ rest) h1 sz1 (nc + mc) (ns + ms)) : pw X G A Q pc L st h sz nc ns := by
  obtain ⟨q1, q2, q3, q4, q5, q6⟩ := fu_ord
  refine pr_run (aa := (Value.ref (G.2.2 (100 + j)) :: []).toArray) hC (fun H locs ls a1 a2 a3 a4 a5 => ?_) kk
  have hts := hC.2.2.2.1
  have hrecv : ∃ cellB : Cell, H[(G.2.2 (100 + j))]? = some cellB ∧ cellB.vm.isStatics = false ∧ X.2.2.2.2.1.vm.findClass "WhistleRoster$Word" = some cellB.cls := by
    obtain ⟨cell, h1, h2, h3, -⟩ := (hC.2.2.2.2.2.2.1.2.2.2.1 _ (ro_ow hj)).kept a4.2.1
    exact ⟨cell, h1, h2, h3⟩
  have gI : GoodIn lw_g (va_wsU RX4 74 "WhistleRoster$Word" "java/lang/Enum" ⟨"WhistleRoster$Word", "ordinal", "()I"⟩ yJx29ce0_ordinal_8abf5 (Cond.code yJx29ce0_ordinal_8abf5 cJx29ce0_ordinal_8abf5 1 (some .int) :: lw_g)) := by
    intro w hw
    have hm : w ∈ lw_g := by
      rcases List.mem_append.mp hw with h | h
      · rcases List.mem_cons.mp h with h | h
        · rw [h]; exact q1
        rcases List.mem_cons.mp h with h | h
        · rw [h]; exact q2
        rcases List.mem_cons.mp h with h | h
        · rw [h]; exact q3
        rcases List.mem_cons.mp h with h | h
        · rw [h]; exact q4
        rcases List.mem_cons.mp h with h | h
        · rw [h]; exact q5
        cases h
      · rcases List.mem_cons.mp h with h | h
        · rw [h]; exact q6
        · exact h
    exact ⟨hm, good_of_word (List.mem_filter.mp hm).2⟩
  exact va_runU (As := []) (rest := rest) (own := RX4) (C := "WhistleRoster$Word") (owner := "java/lang/Enum") (x := ⟨"WhistleRoster$Word", "ordinal", "()I"⟩) (n := 0) (index := 74) ⟨hC.1, hC.2.1, hC.2.2.2.2.2.2.2.2, hC.2.2.1, hts⟩ hM (va_cwU 0 hts gI rfl rfl rfl rfl ⟨by decide +kernel, by decide +kernel, by decide +kernel⟩ (by rw [hR]; exact ⟨hd0, by show 8 + (1 + 11) + 40 * d ≤ 40 * d0; omega⟩)) ⟨pm_blind, hrecv, pm_pre hC a1 a2 a3 a4⟩ rfl rfl (by rw [← hC.2.2.2.2.2.2.2.2]; exact a5.1) hst (lv_room hW) hd (by rw [hR]; exact ⟨hmc, hms⟩)
end RO
section ROU
variable {X : px_X} {A : Nat → Prop} {Q : State → Prop} {pc : Nat} {L : List (Option Value)} {st rest : List Value} {h h0 hh : pe_H} {sz nc ns : Nat} {cc : ByteArray} {own : String} {nL : Nat} {Y : px_Y} {U : Um} {o c k N index : Nat} {l : Launch} {y : MethodName}
variable {d0 mc0 ms0 : Nat} {cc' : ByteArray} {maxL n d : Nat} {ret : Option FieldType} {As : List Value}
/-- a word, or none -/
def pq_w (Y : px_Y) (post : Nat → Um → Prop) : Option Value → Um → Prop := fun v U => (v = some .null ∧ post 99 U) ∨ ∃ j, j < 23 ∧ v = some (.ref (Y.1.2.2 (100 + j))) ∧ post j U
theorem vc_Oi (hC : px_C X Y.1 A cc own nL) (hR : X.2.2.2.1 = pm_rm d0 mc0 ms0) (As : List Value) {post : Int32 → Um → Prop} {j : Nat}
    (hq : pc_V own index y cc' maxL ret n) (hd : decode cc pc = .ok (.invokevirtual index, 3)) (hU : rF Y h0 U h) (hM : um X.2.1 Y d y cc' maxL ret (.ref (Y.1.2.2 (200 + j)) :: As) U (pq_i post)) (hj : j < 23) (hy : y.cls = "java/lang/String")
    (hst : st = As.reverse ++ .ref (Y.1.2.2 (200 + j)) :: rest) (hn : As.length = n) (hW : (rest.map fun v => v.category).sum ≤ 8) (hd0 : d + 1 ≤ d0) (hmc : nc ≤ mc0) (hms : ns ≤ ms0)
    (kk : ∀ (r : Int32) (U' : Um) (h' : pe_H), post r U' → rF Y h0 U' h' → pw X Y.1 A Q (pc + 3) L (.int r :: rest) h' sz nc ns) : pw X Y.1 A Q pc L st h sz nc ns := by
  refine pr_callO hC hR (mc := 0) (ms := 0) hq hd (hM h0 h sz hU) (by rw [hy]; exact ro_os hj) hst hn hW hd0 hmc hms (fun v h1 sz1 hp => ?_)
  obtain ⟨U', ⟨r, e, hp'⟩, hU', rfl⟩ := hp
  subst e
  exact kk r U' h1 hp' hU'
theorem vc_Ordi (hC : px_C X Y.1 A cc RX4 nL) (hR : X.2.2.2.1 = pm_rm d0 mc0 ms0) {post : Int32 → Um → Prop} {j : Nat}
    (hd : decode cc pc = .ok (.invokevirtual 74, 3)) (hU : rF Y h0 U h) (hM : um X.2.1 Y d yJx29ce0_ordinal_8abf5 cJx29ce0_ordinal_8abf5 1 (some .int) [.ref (Y.1.2.2 (100 + j))] U (pq_i post)) (hj : j < 23)
    (hst : st = .ref (Y.1.2.2 (100 + j)) :: rest) (hW : (rest.map fun v => v.category).sum ≤ 8) (hd0 : d + 1 ≤ d0) (hmc : nc ≤ mc0) (hms : ns ≤ ms0)
    (kk : ∀ (r : Int32) (U' : Um) (h' : pe_H), post r U' → rF Y h0 U' h' → pw X Y.1 A Q (pc + 3) L (.int r :: rest) h' sz nc ns) : pw X Y.1 A Q pc L st h sz nc ns := by
  refine pr_callOrd hC hR (mc := 0) (ms := 0) hd hj (hM h0 h sz hU) hst hW hd0 hmc hms (fun v h1 sz1 hp => ?_)
  obtain ⟨U', ⟨r, e, hp'⟩, hU', rfl⟩ := hp
  subst e
  exact kk r U' h1 hp' hU'
theorem vc_Sw (hC : px_C X Y.1 A cc own nL) (hR : X.2.2.2.1 = pm_rm d0 mc0 ms0) (As : List Value) {post : Nat → Um → Prop}
    (hq : pc_S own index y cc' maxL ret n) (hd : decode cc pc = .ok (.invokestatic index, 3)) (hU : rF Y h0 U h) (hM : um X.2.1 Y d y cc' maxL ret As U (pq_w Y post))
    (hst : st = As.reverse ++ rest) (hn : As.length = n) (hW : (rest.map fun v => v.category).sum ≤ 8) (hd0 : d + 1 ≤ d0) (hmc : nc ≤ mc0) (hms : ns ≤ ms0)
    (k1 : ∀ (U' : Um) (h' : pe_H), post 99 U' → rF Y h0 U' h' → pw X Y.1 A Q (pc + 3) L (.null :: rest) h' sz nc ns)
    (kk : ∀ (r : Nat) (U' : Um) (h' : pe_H), r < 23 → post r U' → rF Y h0 U' h' → pw X Y.1 A Q (pc + 3) L (.ref (Y.1.2.2 (100 + r)) :: rest) h' sz nc ns) : pw X Y.1 A Q pc L st h sz nc ns :=
  uc_S hC hR hq hd hU hM hst hn hW hd0 hmc hms (fun v U' h' hp hU' => by
    rcases hp with ⟨e, hp⟩ | ⟨r, hr, e, hp⟩
    · subst e; exact k1 U' h' hp hU'
    · subst e; exact kk r U' h' hr hp hU')
theorem vc_Sv (hC : px_C X Y.1 A cc own nL) (hR : X.2.2.2.1 = pm_rm d0 mc0 ms0) (As : List Value) {post : Um → Prop}
    (hq : pc_S own index y cc' maxL ret n) (hd : decode cc pc = .ok (.invokestatic index, 3)) (hU : rF Y h0 U h) (hM : um X.2.1 Y d y cc' maxL ret As U (pq_v post))
    (hst : st = As.reverse ++ rest) (hn : As.length = n) (hW : (rest.map fun v => v.category).sum ≤ 8) (hd0 : d + 1 ≤ d0) (hmc : nc ≤ mc0) (hms : ns ≤ ms0)
    (kk : ∀ (U' : Um) (h' : pe_H), post U' → rF Y h0 U' h' → pw X Y.1 A Q (pc + 3) L rest h' sz nc ns) : pw X Y.1 A Q pc L st h sz nc ns :=
  uc_S hC hR hq hd hU hM hst hn hW hd0 hmc hms (fun v U' h' ⟨e, hp⟩ hU' => by subst e; exact kk U' h' hp hU')
theorem pv_wret {j : Nat} {post : Nat → Um → Prop} {C : String} (hM : px_M l X Y.1 hh sz y cc nL (some (.object C)) d 0 0) (hd : decode cc pc = .ok (.areturn, 1)) (hj : j < 23) (hU : rF Y h0 U h) (hp : post j U) : pw X Y.1 (pm_A hh sz) (pm_E X Y.1 hh sz 0 0 (pm_P Y h0 sz (pq_w Y post))) pc L [.ref (Y.1.2.2 (100 + j))] h sz 0 0 := pr_aret hM hd ⟨U, Or.inr ⟨j, hj, rfl, hp⟩, hU, rfl⟩
theorem pv_nret {post : Nat → Um → Prop} {C : String} (hM : px_M l X Y.1 hh sz y cc nL (some (.object C)) d 0 0) (hd : decode cc pc = .ok (.areturn, 1)) (hU : rF Y h0 U h) (hp : post 99 U) : pw X Y.1 (pm_A hh sz) (pm_E X Y.1 hh sz 0 0 (pm_P Y h0 sz (pq_w Y post))) pc L [.null] h sz 0 0 := pr_aretN hM hd ⟨U, Or.inl ⟨rfl, hp⟩, hU, rfl⟩
theorem pv_cret {v : Int32} {post : Int32 → Um → Prop} (hM : px_M l X Y.1 hh sz y cc nL (some .char) d 0 0) (hd : decode cc pc = .ok (.ireturn, 1)) (hn : narrow .char (.int v) = .int v) (hU : rF Y h0 U h) (hp : post v U) : pw X Y.1 (pm_A hh sz) (pm_E X Y.1 hh sz 0 0 (pm_P Y h0 sz (pq_i post))) pc L [.int v] h sz 0 0 := pr_cret hM hd hn ⟨U, ⟨v, rfl, hp⟩, hU, rfl⟩
theorem pv_bret {v : Int32} {post : Int32 → Um → Prop} (hM : px_M l X Y.1 hh sz y cc nL (some .byte) d 0 0) (hd : decode cc pc = .ok (.ireturn, 1)) (hn : narrow .byte (.int v) = .int v) (hU : rF Y h0 U h) (hp : post v U) : pw X Y.1 (pm_A hh sz) (pm_E X Y.1 hh sz 0 0 (pm_P Y h0 sz (pq_i post))) pc L [.int v] h sz 0 0 := fun H locs ls a1 a2 a3 a4 a5 =>
  W.zret (v := v) hM.1.1 hM.1.2.1 hM.2.2.2.1 hn (fun t ht hW => ⟨⟨_, h, rfl, by rw [ht, a1]; exact ⟨U, ⟨v, rfl, hp⟩, hU, rfl⟩, by rw [ht]; exact a2, a3⟩, a4.F ht⟩) a4.2.2 hd hM.1.2.2.2.2.2.2.2.1
end ROU
