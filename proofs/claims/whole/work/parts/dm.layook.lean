/-! the law's loop: lay, look -/
section LAWT
variable {X : px_X} {Y : px_Y} {A : Nat → Prop} {Q : State → Prop} {bs bo Ls : Nat} {xs : Nat → Int32} {i : Nat} {L : List (Option Value)} {st : List Value} {h : pe_H} {sz nc ns : Nat} {T : Tm} {U : Um} {w : Nat} {f : Nat → Int64}
def nb (x : Int32) : Int := if x = 0 then 0 else 1
theorem nb_01 (x : Int32) : nb x = 0 ∨ nb x = 1 := by
  unfold nb
  split
  · exact Or.inl rfl
  · exact Or.inr rfl
theorem l_bool (hX : lC X Y A bs bo Ls xs) {pc : Nat} {x : Int32} (d0 : decode code pc = .ok (.ifCond .eq 7, 3)) (d1 : decode code (pc + 3) = .ok (.iconst 1, 1)) (d2 : decode code (pc + 4) = .ok (.goto 4, 3)) (d3 : decode code (pc + 7) = .ok (.iconst 0, 1)) (kk : pw X Y.1 A Q (pc + 8) L (.int (jI (nb x)) :: st) h sz nc ns) : pw X Y.1 A Q pc L (.int x :: st) h sz nc ns := by
  refine pr_if_eq hX.1 (pc + 7) d0 (by omega) (fun c => ?_) (fun c => ?_)
  · refine pr_iconst hX.1 (jI (nb x)) d3 (by unfold nb; rw [if_pos c]; rfl) ?_
    exact kk
  · refine pr_iconst hX.1 (jI (nb x)) d1 (by unfold nb; rw [if_neg c]; rfl) ?_
    exact pr_goto hX.1 (pc + 8) d2 (by omega) kk
theorem g_lay (hX : lC X Y A bs bo Ls xs) (hi : i + 6 ≤ Ls) (hS : lS Y bo f T U w h) (hnc : nc + 1 ≤ 601024) (hns : ns + 6 ≤ 7293034) (kk : lK X Y A Q bs bo i nc ns) : pw X Y.1 A Q 1619 (lL Y bs bo i) [] h sz nc ns := by
  obtain ⟨hC, hR, hl, hw, hz, hx, hb, hL⟩ := id hX
  obtain ⟨hU, hI, hA, hM⟩ := hS
  obtain ⟨s, es⟩ : ∃ s, s = (xs (i + 1)).toInt := ⟨_, rfl⟩
  obtain ⟨p, ep⟩ : ∃ p, p = (xs (i + 2)).toInt := ⟨_, rfl⟩
  obtain ⟨o, eo⟩ : ∃ o, o = (xs (i + 3)).toInt := ⟨_, rfl⟩
  obtain ⟨n, en⟩ : ∃ n, n = nb (xs (i + 4)) := ⟨_, rfl⟩
  have j1 : xs (i + 1) = jI s := by rw [es, jI_of]
  have j2 : xs (i + 2) = jI p := by rw [ep, jI_of]
  have j3 : xs (i + 3) = jI o := by rw [eo, jI_of]
  have rs : r32 s := by rw [es]; exact r32_of _
  have rp : r32 p := by rw [ep]; exact r32_of _
  have ro : r32 o := by rw [eo]; exact r32_of _
  have hn : n = 0 ∨ n = 1 := by rw [en]; exact nb_01 _
  refine pr_aload_n hC (by decide +kernel : decode code 1619 = .ok (.aload_n 1, 1)) rfl ?_
  refine l_lds (pc := 1620) hX hi rfl rfl 4 (by decide) (by decide +kernel) ?_
  refine l_bool (pc := 1644) hX (by decide +kernel) (by decide +kernel) (by decide +kernel) (by decide +kernel) ?_
  rw [← en]
  refine pr_aload_n hC (by decide +kernel : decode code 1652 = .ok (.aload_n 3, 1)) rfl ?_
  refine pr_callSW hC hw hz hR (As := [.ref (Y.2.1 0), .int (xs (i + 1)), .int (xs (i + 2)), .int (xs (i + 3)), .int (jI n), .ref bo]) (rest := []) fw_194 (by decide +kernel : decode code 1653 = .ok (.invokestatic 194, 3)) (t_L_lay hl hb (y_lay j1 j2 j3 rfl rs rp ro hn hI hA _) hU) rfl rfl (Nat.zero_le 8) (by decide) hnc hns (fun v1 h1 sz1 hp1 => ?_)
  obtain ⟨k, f1, U1, rfl, ⟨rfl, hz1, hA1, hk1⟩, hU1, -⟩ := hp1
  refine pr_istore hC (by decide +kernel : decode code 1656 = .ok (.istore 5, 2)) (by decide) rfl ?_
  refine pr_aload_n hC (by decide +kernel : decode code 1658 = .ok (.aload_n 2, 1)) rfl ?_
  refine l_lds (pc := 1659) hX hi rfl rfl 4 (by decide) (by decide +kernel) ?_
  refine l_bool (pc := 1683) hX (by decide +kernel) (by decide +kernel) (by decide +kernel) (by decide +kernel) ?_
  rw [← en]
  refine vc_Vi hC hR [.int (xs (i + 1)), .int (xs (i + 2)), .int (xs (i + 3)), .int (jI n)] (rest := []) (post := fun r V => r = jI (layS T s p o n) ∧ M V (layT T s p o n) ∧ fM U1 V ∧ uI V 55 0 = jI (if layA T s p o then 0 else 1)) fv_L_197 (by decide +kernel : decode code 1691 = .ok (.invokevirtual 197, 3)) hU1 (t_X12_lay rfl (s_X12_lay (M_55 hk1 hM) hI.1.1 hI.2.1 hI.2.2.1 hI.1.2.2.2.1 j1 j2 j3 rfl rs rp ro hn (fun U2 mU fU tU => ⟨rfl, mU, fU, tU⟩))) rfl (by decide) rfl rfl rfl (Nat.zero_le 8) (by decide) hnc hns (fun v2 U2 h2 hp2 hU2 => ?_)
  obtain ⟨rfl, hM2, hf2, ht2⟩ := hp2
  refine pr_istore hC (by decide +kernel : decode code 1694 = .ok (.istore 6, 2)) (by decide) rfl ?_
  refine pr_aload_n hC (by decide +kernel : decode code 1696 = .ok (.aload_n 2, 1)) rfl ?_
  refine vc_Vi hC hR [] (rest := []) (post := fun r V => r = uI U2 55 0 ∧ V = U2) fv_L_191 (by decide +kernel : decode code 1697 = .ok (.invokevirtual 191, 3)) hU2 (t_X12_thrown rfl (show w_X12_thrown 55 U2 _ from ⟨rfl, rfl⟩)) rfl (by decide) rfl rfl rfl (Nat.zero_le 8) (by decide) hnc hns (fun v3 U3 h3 hp3 hU3 => ?_)
  obtain ⟨rfl, rfl⟩ := hp3
  rw [ht2]
  refine pr_iload hC (by decide +kernel : decode code 1700 = .ok (.iload 5, 2)) rfl ?_
  refine pr_icmp_eq hC 1707 (by decide +kernel : decode code 1702 = .ok (.if_icmp .eq 5, 3)) (by decide) (fun _ => ?_) (fun c => absurd rfl c)
  have hI2 : IA (layT T s p o n) := IA_lay hI
  have last : pw X Y.1 A Q 1731 [some (.ref bs), some (.ref (Y.2.1 0)), some (.ref (Y.2.1 55)), some (.ref bo), some (.int (jI (i : Int))), some (.int (jI (if layA T s p o then 0 else 1))), some (.int (jI (layS T s p o n))), none] [] h3 sz1 (nc + 1) (ns + 6) := by
    refine pr_goto hC 1801 (by decide +kernel : decode code 1731 = .ok (.goto 70, 3)) (by decide) ?_
    exact pv_sub _ lL_sub (kk _ _ w f1 h3 sz1 ⟨hU3, hI2, CA_fM hI2.1.1 hf2 hA1, hM2⟩)
  refine pr_iload hC (by decide +kernel : decode code 1707 = .ok (.iload 5, 2)) rfl ?_
  refine pr_if_ne hC 1731 (by decide +kernel : decode code 1709 = .ok (.ifCond .ne 22, 3)) (by decide) (fun _ => last) (fun c => ?_)
  have c0 : (if layA T s p o then (0 : Int) else 1) = 0 := (jI_inj ⟨by split <;> decide, by split <;> decide⟩ ⟨by decide, by decide⟩).mp c
  have e1 : f1 (Int32.toNatClampNeg 0) = jL (layS T s p o n) := hz1 c0
  refine pr_aload_n hC (by decide +kernel : decode code 1712 = .ok (.aload_n 3, 1)) rfl ?_
  refine pr_iconst hC 0 (by decide +kernel : decode code 1713 = .ok (.iconst 0, 1)) rfl ?_
  refine pr_laload hC (by decide +kernel : decode code 1714 = .ok (.laload, 1)) (lO_at hb hU3) (vd_in (by decide)) ?_
  rw [e1]
  refine pr_iload hC (by decide +kernel : decode code 1715 = .ok (.iload 6, 2)) rfl ?_
  have lz : layS T s p o n = 1 ∨ layS T s p o n = 0 := by
    by_cases q : layA T s p o ∧ (T 51 s = 1 ↔ n ≠ 0)
    · exact Or.inl (cif_t q)
    · exact Or.inr (cif_f q)
  have fin : pw X Y.1 A Q 1725 [some (.ref bs), some (.ref (Y.2.1 0)), some (.ref (Y.2.1 55)), some (.ref bo), some (.int (jI (i : Int))), some (.int (jI (if layA T s p o then 0 else 1))), some (.int (jI (layS T s p o n))), none] [.long (jL (layS T s p o n)), .long (jL (layS T s p o n))] h3 sz1 (nc + 1) (ns + 6) := by
    refine pr_lcmp hC (by decide +kernel : decode code 1725 = .ok (.lcmp, 1)) ?_
    rw [lg_refl]
    exact pr_if_eq hC 1731 (by decide +kernel : decode code 1726 = .ok (.ifCond .eq 5, 3)) (by decide) (fun _ => last) (fun z => absurd rfl z)
  refine pr_if_eq hC 1724 (by decide +kernel : decode code 1717 = .ok (.ifCond .eq 7, 3)) (by decide) (fun c => ?_) (fun c => ?_)
  · have l0 : layS T s p o n = 0 := by
      rcases lz with q | q
      · rw [q] at c
        exact absurd c (by decide)
      · exact q
    refine pr_lconst hC (jL (layS T s p o n)) (by decide +kernel : decode code 1724 = .ok (.lconst 0, 1)) (by rw [l0]; rfl) ?_
    exact fin
  · have l1 : layS T s p o n = 1 := by
      rcases lz with q | q
      · exact q
      · rw [q] at c
        exact absurd rfl c
    refine pr_lconst hC (jL (layS T s p o n)) (by decide +kernel : decode code 1720 = .ok (.lconst 1, 1)) (by rw [l1]; rfl) ?_
    exact pr_goto hC 1725 (by decide +kernel : decode code 1721 = .ok (.goto 4, 3)) (by decide) fin
theorem g_look (hX : lC X Y A bs bo Ls xs) (hi : i + 6 ≤ Ls) (hS : lS Y bo f T U w h) (hnc : nc + 1 ≤ 601024) (hns : ns + 6 ≤ 7293034) (kk : lK X Y A Q bs bo i nc ns) : pw X Y.1 A Q 1734 (lL Y bs bo i) [] h sz nc ns := by
  obtain ⟨hC, hR, hl, hw, hz, hx, hb, hL⟩ := id hX
  obtain ⟨hU, hI, hA, hM⟩ := hS
  obtain ⟨s, es⟩ : ∃ s, s = (xs (i + 1)).toInt := ⟨_, rfl⟩
  obtain ⟨p, ep⟩ : ∃ p, p = (xs (i + 2)).toInt := ⟨_, rfl⟩
  have j1 : xs (i + 1) = jI s := by rw [es, jI_of]
  have j2 : xs (i + 2) = jI p := by rw [ep, jI_of]
  have rs : r32 s := by rw [es]; exact r32_of _
  have rp : r32 p := by rw [ep]; exact r32_of _
  refine pr_aload_n hC (by decide +kernel : decode code 1734 = .ok (.aload_n 1, 1)) rfl ?_
  refine l_lds (pc := 1735) hX hi rfl rfl 2 (by decide) (by decide +kernel) ?_
  refine pr_aload_n hC (by decide +kernel : decode code 1747 = .ok (.aload_n 3, 1)) rfl ?_
  refine pr_callSW hC hw hz hR (As := [.ref (Y.2.1 0), .int (xs (i + 1)), .int (xs (i + 2)), .ref bo]) (rest := []) fw_198 (by decide +kernel : decode code 1748 = .ok (.invokestatic 198, 3)) (t_L_look hl hb (y_look j1 j2 rs rp hI hA _) hU) rfl rfl (Nat.zero_le 8) (by decide) hnc hns (fun v1 h1 sz1 hp1 => ?_)
  obtain ⟨k, f1, U1, rfl, ⟨rfl, hz1, hA1, hk1⟩, hU1, -⟩ := hp1
  refine pr_istore hC (by decide +kernel : decode code 1751 = .ok (.istore 5, 2)) (by decide) rfl ?_
  refine pr_aload_n hC (by decide +kernel : decode code 1753 = .ok (.aload_n 2, 1)) rfl ?_
  refine l_lds (pc := 1754) hX hi rfl rfl 2 (by decide) (by decide +kernel) ?_
  refine vc_Vl hC hR [.int (xs (i + 1)), .int (xs (i + 2))] (rest := []) (post := fun r V => r = jL (lookS T s p) ∧ M V T ∧ fM U1 V ∧ uI V 55 0 = jI (if isPl T s p then 0 else 1)) fv_L_201 (by decide +kernel : decode code 1766 = .ok (.invokevirtual 201, 3)) hU1 (t_X12_look rfl (s_X12_look (M_55 hk1 hM) hI.1.1 hI.2.1 hI.1.2.2.2.1 j1 j2 rs rp (fun k k0 k1 => (hI.1.2.2.2.2 k k0 k1).1) (fun U2 mU fU tU => ⟨rfl, mU, fU, tU⟩))) rfl (by decide) rfl rfl rfl (Nat.zero_le 8) (by decide) hnc hns (fun v2 U2 h2 hp2 hU2 => ?_)
  obtain ⟨rfl, hM2, hf2, ht2⟩ := hp2
  refine pr_lstore hC (by decide +kernel : decode code 1769 = .ok (.lstore 6, 2)) (by decide) rfl ?_
  refine pr_aload_n hC (by decide +kernel : decode code 1771 = .ok (.aload_n 2, 1)) rfl ?_
  refine vc_Vi hC hR [] (rest := []) (post := fun r V => r = uI U2 55 0 ∧ V = U2) fv_L_191 (by decide +kernel : decode code 1772 = .ok (.invokevirtual 191, 3)) hU2 (t_X12_thrown rfl (show w_X12_thrown 55 U2 _ from ⟨rfl, rfl⟩)) rfl (by decide) rfl rfl rfl (Nat.zero_le 8) (by decide) hnc hns (fun v3 U3 h3 hp3 hU3 => ?_)
  obtain ⟨rfl, rfl⟩ := hp3
  rw [ht2]
  refine pr_iload hC (by decide +kernel : decode code 1775 = .ok (.iload 5, 2)) rfl ?_
  refine pr_icmp_eq hC 1782 (by decide +kernel : decode code 1777 = .ok (.if_icmp .eq 5, 3)) (by decide) (fun _ => ?_) (fun c => absurd rfl c)
  have last : pw X Y.1 A Q 1801 [some (.ref bs), some (.ref (Y.2.1 0)), some (.ref (Y.2.1 55)), some (.ref bo), some (.int (jI (i : Int))), some (.int (jI (if isPl T s p then 0 else 1))), some (.long (jL (lookS T s p))), none] [] h3 sz1 (nc + 1) (ns + 6) :=
    pv_sub _ lL_sub (kk _ _ w f1 h3 sz1 ⟨hU3, hI, CA_fM hI.1.1 hf2 hA1, hM2⟩)
  have go : pw X Y.1 A Q 1798 [some (.ref bs), some (.ref (Y.2.1 0)), some (.ref (Y.2.1 55)), some (.ref bo), some (.int (jI (i : Int))), some (.int (jI (if isPl T s p then 0 else 1))), some (.long (jL (lookS T s p))), none] [] h3 sz1 (nc + 1) (ns + 6) :=
    pr_goto hC 1801 (by decide +kernel : decode code 1798 = .ok (.goto 3, 3)) (by decide) last
  refine pr_iload hC (by decide +kernel : decode code 1782 = .ok (.iload 5, 2)) rfl ?_
  refine pr_if_ne hC 1798 (by decide +kernel : decode code 1784 = .ok (.ifCond .ne 14, 3)) (by decide) (fun _ => go) (fun c => ?_)
  have c0 : (if isPl T s p then (0 : Int) else 1) = 0 := (jI_inj ⟨by split <;> decide, by split <;> decide⟩ ⟨by decide, by decide⟩).mp c
  have e1 : f1 (Int32.toNatClampNeg 0) = jL (lookS T s p) := hz1 c0
  refine pr_aload_n hC (by decide +kernel : decode code 1787 = .ok (.aload_n 3, 1)) rfl ?_
  refine pr_iconst hC 0 (by decide +kernel : decode code 1788 = .ok (.iconst 0, 1)) rfl ?_
  refine pr_laload hC (by decide +kernel : decode code 1789 = .ok (.laload, 1)) (lO_at hb hU3) (vd_in (by decide)) ?_
  rw [e1]
  refine pr_lload hC (by decide +kernel : decode code 1790 = .ok (.lload 6, 2)) rfl ?_
  refine pr_lcmp hC (by decide +kernel : decode code 1792 = .ok (.lcmp, 1)) ?_
  rw [lg_refl]
  exact pr_if_eq hC 1798 (by decide +kernel : decode code 1793 = .ok (.ifCond .eq 5, 3)) (by decide) (fun _ => go) (fun z => absurd rfl z)
end LAWT
