/-! the law's loop: shelf, lay, look -/
section LAWS
variable {X : px_X} {Y : px_Y} {A : Nat → Prop} {Q : State → Prop} {bs bo Ls : Nat} {xs : Nat → Int32} {i : Nat} {L : List (Option Value)} {st : List Value} {h : pe_H} {sz nc ns : Nat} {T : Tm} {U : Um} {w : Nat} {f : Nat → Int64}
theorem g_shelf (hX : lC X Y A bs bo Ls xs) (hi : i + 6 ≤ Ls) (hS : lS Y bo f T U w h) (hnc : nc + 1 ≤ 601024) (hns : ns + 6 ≤ 7293034) (kk : lK X Y A Q bs bo i nc ns) : pw X Y.1 A Q 1539 (lL Y bs bo i) [] h sz nc ns := by
  obtain ⟨hC, hR, hl, hw, hz, hx, hb, hL⟩ := id hX
  obtain ⟨hU, hI, hA, hM⟩ := hS
  refine pr_aload_n hC (by decide +kernel : decode code 1539 = .ok (.aload_n 1, 1)) rfl ?_
  refine l_lds (pc := 1540) hX hi rfl rfl 3 (by decide) (by decide +kernel) ?_
  refine pr_aload_n hC (by decide +kernel : decode code 1558 = .ok (.aload_n 3, 1)) rfl ?_
  refine pr_callSW hC hw hz hR (As := [.ref (Y.2.1 0), .int (xs (i + 1)), .int (xs (i + 2)), .int (xs (i + 3)), .ref bo]) (rest := []) fw_185 (by decide +kernel : decode code 1559 = .ok (.invokestatic 185, 3)) (t_L_shelf hl hb (y_shelf (jI_of _).symm (jI_of _).symm (jI_of _).symm (r32_of _) (r32_of _) (r32_of _) hI hA _) hU) rfl rfl (Nat.zero_le 8) (by decide) hnc hns (fun v1 h1 sz1 hp1 => ?_)
  obtain ⟨k, f1, U1, rfl, ⟨rfl, hz1, hA1, hk1⟩, hU1, -⟩ := hp1
  refine pr_istore hC (by decide +kernel : decode code 1562 = .ok (.istore 5, 2)) (by decide) rfl ?_
  refine pr_aload_n hC (by decide +kernel : decode code 1564 = .ok (.aload_n 2, 1)) rfl ?_
  refine l_lds (pc := 1565) hX hi rfl rfl 3 (by decide) (by decide +kernel) ?_
  refine vc_Vi hC hR [.int (xs (i + 1)), .int (xs (i + 2)), .int (xs (i + 3))] (rest := []) (post := fun r V => r = jI (if shTh (xs (i + 1)).toInt (xs (i + 2)).toInt (xs (i + 3)).toInt = 0 then (xs (i + 3)).toInt else 0) ∧ M V (shT T (xs (i + 1)).toInt (xs (i + 2)).toInt (xs (i + 3)).toInt) ∧ fM U1 V ∧ uI V 55 0 = jI (shTh (xs (i + 1)).toInt (xs (i + 2)).toInt (xs (i + 3)).toInt)) fv_L_190 (by decide +kernel : decode code 1583 = .ok (.invokevirtual 190, 3)) hU1 (t_X12_shelf rfl (s_X12_shelf (M_55 hk1 hM) (jI_of _).symm (jI_of _).symm (jI_of _).symm (r32_of _) (r32_of _) (r32_of _) (fun U2 mU fU tU => ⟨rfl, mU, fU, tU⟩))) rfl (by decide) rfl rfl rfl (Nat.zero_le 8) (by decide) hnc hns (fun v2 U2 h2 hp2 hU2 => ?_)
  obtain ⟨rfl, hM2, hf2, ht2⟩ := hp2
  refine pr_istore hC (by decide +kernel : decode code 1586 = .ok (.istore 6, 2)) (by decide) rfl ?_
  refine pr_aload_n hC (by decide +kernel : decode code 1588 = .ok (.aload_n 2, 1)) rfl ?_
  refine vc_Vi hC hR [] (rest := []) (post := fun r V => r = uI U2 55 0 ∧ V = U2) fv_L_191 (by decide +kernel : decode code 1589 = .ok (.invokevirtual 191, 3)) hU2 (t_X12_thrown rfl (show w_X12_thrown 55 U2 _ from ⟨rfl, rfl⟩)) rfl (by decide) rfl rfl rfl (Nat.zero_le 8) (by decide) hnc hns (fun v3 U3 h3 hp3 hU3 => ?_)
  obtain ⟨rfl, rfl⟩ := hp3
  rw [ht2]
  refine pr_iload hC (by decide +kernel : decode code 1592 = .ok (.iload 5, 2)) rfl ?_
  refine pr_icmp_eq hC 1599 (by decide +kernel : decode code 1594 = .ok (.if_icmp .eq 5, 3)) (by decide) (fun _ => ?_) (fun c => absurd rfl c)
  have hI2 : IA (shT T (xs (i + 1)).toInt (xs (i + 2)).toInt (xs (i + 3)).toInt) := IA_sh hI
  have last : pw X Y.1 A Q 1616 [some (.ref bs), some (.ref (Y.2.1 0)), some (.ref (Y.2.1 55)), some (.ref bo), some (.int (jI (i : Int))), some (.int (jI (shTh (xs (i + 1)).toInt (xs (i + 2)).toInt (xs (i + 3)).toInt))), some (.int (jI (if shTh (xs (i + 1)).toInt (xs (i + 2)).toInt (xs (i + 3)).toInt = 0 then (xs (i + 3)).toInt else 0))), none] [] h3 sz1 (nc + 1) (ns + 6) := by
    refine pr_goto hC 1801 (by decide +kernel : decode code 1616 = .ok (.goto 185, 3)) (by decide) ?_
    exact pv_sub _ lL_sub (kk _ _ w f1 h3 sz1 ⟨hU3, hI2, CA_fM hI2.1.1 hf2 hA1, hM2⟩)
  have tb : 0 ≤ shTh (xs (i + 1)).toInt (xs (i + 2)).toInt (xs (i + 3)).toInt ∧ shTh (xs (i + 1)).toInt (xs (i + 2)).toInt (xs (i + 3)).toInt ≤ 2 := by
    unfold shTh
    split
    · split <;> omega
    · omega
  refine pr_iload hC (by decide +kernel : decode code 1599 = .ok (.iload 5, 2)) rfl ?_
  refine pr_if_ne hC 1616 (by decide +kernel : decode code 1601 = .ok (.ifCond .ne 15, 3)) (by decide) (fun _ => last) (fun c => ?_)
  have c0 : shTh (xs (i + 1)).toInt (xs (i + 2)).toInt (xs (i + 3)).toInt = 0 := (jI_inj ⟨by omega, by omega⟩ ⟨by decide, by decide⟩).mp c
  refine pr_aload_n hC (by decide +kernel : decode code 1604 = .ok (.aload_n 3, 1)) rfl ?_
  refine pr_iconst hC 0 (by decide +kernel : decode code 1605 = .ok (.iconst 0, 1)) rfl ?_
  refine pr_laload hC (by decide +kernel : decode code 1606 = .ok (.laload, 1)) (lO_at hb hU3) (vd_in (by decide)) ?_
  refine pr_iload hC (by decide +kernel : decode code 1607 = .ok (.iload 6, 2)) rfl ?_
  refine pr_i2l hC (by decide +kernel : decode code 1609 = .ok (.i2l, 1)) ?_
  refine pr_lcmp hC (by decide +kernel : decode code 1610 = .ok (.lcmp, 1)) ?_
  have e1 : f1 (Int32.toNatClampNeg 0) = jL (xs (i + 3)).toInt := hz1 c0
  rw [e1, if_pos c0, jI_L (r32_of _), lg_refl]
  refine pr_if_eq hC 1616 (by decide +kernel : decode code 1611 = .ok (.ifCond .eq 5, 3)) (by decide) (fun _ => ?_) (fun z => absurd rfl z)
  rw [if_pos c0] at last
  exact last
end LAWS
