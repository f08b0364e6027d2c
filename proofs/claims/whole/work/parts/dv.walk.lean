/-! the law from its entry to its loop -/
section LAWW
variable {X : px_X} {G : px_D} {A : Nat → Prop} {Q : State → Prop} {bs b Ls : Nat} {xs : Nat → Int32}
theorem fn_L_8 : pz_ok RL 8 9 11 := ⟨RX11, TX11, tyX11, rfl, us_X11, tyX11_ok, ⟨lw_in 142 (by decide +kernel) rfl, lw_in 143 (by decide +kernel) rfl, lw_in 116 (by decide +kernel) rfl⟩, by decide⟩
theorem fn_L_26 : pz_ok RL 26 10 54 := ⟨RX12, TX12, tyX12, rfl, us_X12, tyX12_ok, ⟨lw_in 1313 (by decide +kernel) rfl, lw_in 1314 (by decide +kernel) rfl, lw_in 126 (by decide +kernel) rfl⟩, by decide⟩
theorem st_L : lL (Y0 G b) bs (b + 239) 0 = [some (.ref bs), some (.ref (b + 0)), some (.ref (b + 205)), some (.ref (b + 239)), some (.int 0), none, none, none] := by
  show [some (Value.ref bs), some (.ref (b + pl0 0 0)), some (.ref (b + pl0 55 0)), some (.ref (b + 239)), some (.int (jI ((0 : Nat) : Int))), none, none, none] = _
  rw [pz_0, pz_205]
  rfl
theorem st_walk (hX : lC X (Y0 G b) A bs (b + 239) Ls xs) (hE : pe_X G X.2.2.2.2.1) (kx : ∀ (h : pe_H) (sz nc ns : Nat), nc ≤ 601024 → ns ≤ 7293034 → pw X G A Q 1807 [] [] h sz nc ns) : pw X G A Q 0 [some (.ref bs), none, none, none, none, none, none, none] [] (hT (fun _ => none) b (fun _ => none)) (b + 0) 0 0 := by
  have hC : px_C X G A code RL 8 := hX.1
  have hR := hX.2.1
  have hL := hX.2.2.2.2.2.2.2
  refine pg_new hC hR 1 1 11 rfl rfl rfl fn_L_8 (by decide +kernel : decode code 0 = .ok (.new 8, 3)) (Nat.le_of_ble_eq_true rfl) (Nat.le_of_ble_eq_true rfl) ?_
  refine pr_dup hC (by decide +kernel : decode code 3 = .ok (.dup, 1)) rfl ?_
  refine pg_callI hC hE hR [] (n' := 205) 205 6299 rfl rfl fv_L_25 (by decide +kernel : decode code 4 = .ok (.invokespecial 25, 3)) (c_X11_init tu_eq (by omega)) rfl rfl (Nat.le_of_ble_eq_true rfl) (Nat.le_of_ble_eq_true rfl) (Nat.le_of_ble_eq_true rfl) (Nat.le_of_ble_eq_true rfl) ?_
  refine pr_astore_n hC (by decide +kernel : decode code 7 = .ok (.astore_n 1, 1)) (by decide) rfl ?_
  refine pg_new hC hR 206 206 6353 rfl rfl rfl fn_L_26 (by decide +kernel : decode code 8 = .ok (.new 26, 3)) (Nat.le_of_ble_eq_true rfl) (Nat.le_of_ble_eq_true rfl) ?_
  refine pr_dup hC (by decide +kernel : decode code 11 = .ok (.dup, 1)) rfl ?_
  refine pg_callI hC hE hR [] (n' := 239) 239 15960 rfl rfl fv_L_28 (by decide +kernel : decode code 12 = .ok (.invokespecial 28, 3)) (c_X12_init tu_eq (by omega)) rfl rfl (Nat.le_of_ble_eq_true rfl) (Nat.le_of_ble_eq_true rfl) (Nat.le_of_ble_eq_true rfl) (Nat.le_of_ble_eq_true rfl) ?_
  refine pr_astore_n hC (by decide +kernel : decode code 15 = .ok (.astore_n 2, 1)) (by decide) rfl ?_
  refine pr_iconst hC 1 (by decide +kernel : decode code 16 = .ok (.iconst 1, 1)) rfl ?_
  refine pg_newl hC hR 1 240 240 15961 rfl rfl rfl fy_long (by decide +kernel : decode code 17 = .ok (.newarray .long, 2)) (by decide) (by decide) (by decide) (Nat.le_of_ble_eq_true rfl) (Nat.le_of_ble_eq_true rfl) ?_
  refine pr_astore_n hC (by decide +kernel : decode code 19 = .ok (.astore_n 3, 1)) (by decide) rfl ?_
  refine pr_iconst hC 0 (by decide +kernel : decode code 20 = .ok (.iconst 0, 1)) rfl ?_
  refine pr_istore hC (by decide +kernel : decode code 21 = .ok (.istore 4, 2)) (by decide) rfl ?_
  refine pr_same hZ_from ?_
  have hl := l_loop (Q := Q) hX kx 600 0 T0 U0 4 (fun _ => 0) (hZ (Y0 G b) b U0) (b + 240) 240 15961 (Nat.zero_le _) (by omega) (by omega) (by omega) ⟨rF_0, IA_0, CA_0, M_0⟩
  rw [st_L] at hl
  exact hl
end LAWW
theorem W.room {p : Program} {l : Launch} {e : Env} {R R' : Room} {s : State} {m : MethodId} {args : Array Value} {below : List Frame} {meth : Method} {c : Code} {H : Heap} {locs : List Loc} {cells slots : Nat} {Q : State → Prop} {g : JFrame} (h1 : R'.frames ≤ R.frames) (h2 : R'.locals ≤ R.locals) (h3 : R'.cells ≤ R.cells) (h4 : R'.slots ≤ R.slots) (k : W p l e R' s m args below meth c H locs cells slots Q g) : W p l e R s m args below meth c H locs cells slots Q g := by
  intro T hT X
  refine k T hT ⟨X.admits, X.cas, X.clock, X.frames, ?_, X.hears, X.method, X.code, X.here, X.tail, X.warmed, X.limits, X.bytes, X.same⟩
  have h := X.room
  simp only [State.hasRoom, Bool.and_eq_true, decide_eq_true_eq] at h ⊢
  obtain ⟨⟨⟨⟨a1, a2, a3, a4, a5, a6⟩, a7⟩, a8⟩, a9⟩ := h
  exact ⟨⟨⟨⟨by omega, by omega, by omega, by omega, by omega, a6⟩, by omega⟩, by omega⟩, a9⟩
