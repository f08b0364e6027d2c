/-! the law's loop: each case, the table, the loop -/
section LAWU
variable {X : px_X} {Y : px_Y} {A : Nat → Prop} {Q : State → Prop} {bs bo Ls : Nat} {xs : Nat → Int32} {i : Nat} {L : List (Option Value)} {st : List Value} {h : pe_H} {sz nc ns : Nat} {T : Tm} {U : Um} {w : Nat} {f : Nat → Int64}
theorem g_feed (hX : lC X Y A bs bo Ls xs) (hi : i + 6 ≤ Ls) (hS : lS Y bo f T U w h) (hnc : nc ≤ 601024) (hns : ns ≤ 7293034) (kk : lK X Y A Q bs bo i nc ns) : pw X Y.1 A Q 216 (lL Y bs bo i) [] h sz nc ns :=
  l_case hX hi hS hnc hns (n := 5) (p_feed (a1 := xs (i + 1)) (a2 := xs (i + 2)) (a3 := xs (i + 3)) (a4 := xs (i + 4)) (a5 := xs (i + 5)) hS.2.1 hS.2.2.1) (by decide) fv_L_29 fv_L_33 rfl rfl (fun U post H => t_X11_feed rfl H) (fun U post H => t_X12_feed rfl H) (by decide) (by decide) ⟨by decide +kernel, by decide +kernel, by decide +kernel, by decide +kernel, by decide +kernel, by decide +kernel⟩ (by decide +kernel) kk
theorem g_end (hX : lC X Y A bs bo Ls xs) (hi : i + 6 ≤ Ls) (hS : lS Y bo f T U w h) (hnc : nc ≤ 601024) (hns : ns ≤ 7293034) (kk : lK X Y A Q bs bo i nc ns) : pw X Y.1 A Q 289 (lL Y bs bo i) [] h sz nc ns :=
  l_case hX hi hS hnc hns (n := 1) (p_end (a1 := xs (i + 1)) hS.2.1 hS.2.2.1) (by decide) fv_L_34 fv_L_38 rfl rfl (fun U post H => t_X11_end rfl H) (fun U post H => t_X12_end rfl H) (by decide) (by decide) ⟨by decide +kernel, by decide +kernel, by decide +kernel, by decide +kernel, by decide +kernel, by decide +kernel⟩ (by decide +kernel) kk
theorem g_fault (hX : lC X Y A bs bo Ls xs) (hi : i + 6 ≤ Ls) (hS : lS Y bo f T U w h) (hnc : nc ≤ 601024) (hns : ns ≤ 7293034) (kk : lK X Y A Q bs bo i nc ns) : pw X Y.1 A Q 327 (lL Y bs bo i) [] h sz nc ns :=
  l_case hX hi hS hnc hns (n := 1) (p_fault (a1 := xs (i + 1)) hS.2.1 hS.2.2.1) (by decide) fv_L_44 fv_L_48 rfl rfl (fun U post H => t_X11_fault rfl H) (fun U post H => t_X12_fault rfl H) (by decide) (by decide) ⟨by decide +kernel, by decide +kernel, by decide +kernel, by decide +kernel, by decide +kernel, by decide +kernel⟩ (by decide +kernel) kk
theorem g_has (hX : lC X Y A bs bo Ls xs) (hi : i + 6 ≤ Ls) (hS : lS Y bo f T U w h) (hnc : nc ≤ 601024) (hns : ns ≤ 7293034) (kk : lK X Y A Q bs bo i nc ns) : pw X Y.1 A Q 352 (lL Y bs bo i) [] h sz nc ns :=
  l_case hX hi hS hnc hns (n := 1) (p_has (a1 := xs (i + 1)) hS.2.1 hS.2.2.1) (by decide) fv_L_49 fv_L_52 rfl rfl (fun U post H => t_X11_has rfl H) (fun U post H => t_X12_has rfl H) (by decide) (by decide) ⟨by decide +kernel, by decide +kernel, by decide +kernel, by decide +kernel, by decide +kernel, by decide +kernel⟩ (by decide +kernel) kk
theorem g_letter (hX : lC X Y A bs bo Ls xs) (hi : i + 6 ≤ Ls) (hS : lS Y bo f T U w h) (hnc : nc ≤ 601024) (hns : ns ≤ 7293034) (kk : lK X Y A Q bs bo i nc ns) : pw X Y.1 A Q 377 (lL Y bs bo i) [] h sz nc ns :=
  l_case hX hi hS hnc hns (n := 3) (p_letter (a1 := xs (i + 1)) (a2 := xs (i + 2)) (a3 := xs (i + 3)) hS.2.1 hS.2.2.1) (by decide) fv_L_53 fv_L_56 rfl rfl (fun U post H => t_X11_letter rfl H) (fun U post H => t_X12_letter rfl H) (by decide) (by decide) ⟨by decide +kernel, by decide +kernel, by decide +kernel, by decide +kernel, by decide +kernel, by decide +kernel⟩ (by decide +kernel) kk
theorem g_one (hX : lC X Y A bs bo Ls xs) (hi : i + 6 ≤ Ls) (hS : lS Y bo f T U w h) (hnc : nc ≤ 601024) (hns : ns ≤ 7293034) (kk : lK X Y A Q bs bo i nc ns) : pw X Y.1 A Q 426 (lL Y bs bo i) [] h sz nc ns :=
  l_case hX hi hS hnc hns (n := 2) (p_one (a1 := xs (i + 1)) (a2 := xs (i + 2)) hS.2.1 hS.2.2.1) (by decide) fv_L_57 fv_L_61 rfl rfl (fun U post H => t_X11_one rfl H) (fun U post H => t_X12_one_ rfl H) (by decide) (by decide) ⟨by decide +kernel, by decide +kernel, by decide +kernel, by decide +kernel, by decide +kernel, by decide +kernel⟩ (by decide +kernel) kk
theorem g_formBits (hX : lC X Y A bs bo Ls xs) (hi : i + 6 ≤ Ls) (hS : lS Y bo f T U w h) (hnc : nc ≤ 601024) (hns : ns ≤ 7293034) (kk : lK X Y A Q bs bo i nc ns) : pw X Y.1 A Q 463 (lL Y bs bo i) [] h sz nc ns :=
  l_case hX hi hS hnc hns (n := 1) (p_formBits (a1 := xs (i + 1)) hS.2.1 hS.2.2.1) (by decide) fv_L_62 fv_L_65 rfl rfl (fun U post H => t_X11_formBits rfl H) (fun U post H => t_X12_formBits rfl H) (by decide) (by decide) ⟨by decide +kernel, by decide +kernel, by decide +kernel, by decide +kernel, by decide +kernel, by decide +kernel⟩ (by decide +kernel) kk
theorem g_game (hX : lC X Y A bs bo Ls xs) (hi : i + 6 ≤ Ls) (hS : lS Y bo f T U w h) (hnc : nc ≤ 601024) (hns : ns ≤ 7293034) (kk : lK X Y A Q bs bo i nc ns) : pw X Y.1 A Q 488 (lL Y bs bo i) [] h sz nc ns :=
  l_case hX hi hS hnc hns (n := 2) (p_game (a1 := xs (i + 1)) (a2 := xs (i + 2)) hS.2.1 hS.2.2.1) (by decide) fv_L_66 fv_L_69 rfl rfl (fun U post H => t_X11_game rfl H) (fun U post H => t_X12_game rfl H) (by decide) (by decide) ⟨by decide +kernel, by decide +kernel, by decide +kernel, by decide +kernel, by decide +kernel, by decide +kernel⟩ (by decide +kernel) kk
theorem g_seat (hX : lC X Y A bs bo Ls xs) (hi : i + 6 ≤ Ls) (hS : lS Y bo f T U w h) (hnc : nc ≤ 601024) (hns : ns ≤ 7293034) (kk : lK X Y A Q bs bo i nc ns) : pw X Y.1 A Q 525 (lL Y bs bo i) [] h sz nc ns :=
  l_case hX hi hS hnc hns (n := 3) (p_seat (a1 := xs (i + 1)) (a2 := xs (i + 2)) (a3 := xs (i + 3)) hS.2.1 hS.2.2.1) (by decide) fv_L_70 fv_L_73 rfl rfl (fun U post H => t_X11_seat rfl H) (fun U post H => t_X12_seat rfl H) (by decide) (by decide) ⟨by decide +kernel, by decide +kernel, by decide +kernel, by decide +kernel, by decide +kernel, by decide +kernel⟩ (by decide +kernel) kk
theorem g_way (hX : lC X Y A bs bo Ls xs) (hi : i + 6 ≤ Ls) (hS : lS Y bo f T U w h) (hnc : nc ≤ 601024) (hns : ns ≤ 7293034) (kk : lK X Y A Q bs bo i nc ns) : pw X Y.1 A Q 574 (lL Y bs bo i) [] h sz nc ns :=
  l_case hX hi hS hnc hns (n := 2) (p_way (a1 := xs (i + 1)) (a2 := xs (i + 2)) hS.2.1 hS.2.2.1) (by decide) fv_L_74 fv_L_77 rfl rfl (fun U post H => t_X11_way rfl H) (fun U post H => t_X12_way rfl H) (by decide) (by decide) ⟨by decide +kernel, by decide +kernel, by decide +kernel, by decide +kernel, by decide +kernel, by decide +kernel⟩ (by decide +kernel) kk
theorem g_toward (hX : lC X Y A bs bo Ls xs) (hi : i + 6 ≤ Ls) (hS : lS Y bo f T U w h) (hnc : nc ≤ 601024) (hns : ns ≤ 7293034) (kk : lK X Y A Q bs bo i nc ns) : pw X Y.1 A Q 611 (lL Y bs bo i) [] h sz nc ns :=
  l_case hX hi hS hnc hns (n := 2) (p_toward (a1 := xs (i + 1)) (a2 := xs (i + 2)) hS.2.1 hS.2.2.1) (by decide) fv_L_78 fv_L_81 rfl rfl (fun U post H => t_X11_toward rfl H) (fun U post H => t_X12_toward rfl H) (by decide) (by decide) ⟨by decide +kernel, by decide +kernel, by decide +kernel, by decide +kernel, by decide +kernel, by decide +kernel⟩ (by decide +kernel) kk
theorem g_hub (hX : lC X Y A bs bo Ls xs) (hi : i + 6 ≤ Ls) (hS : lS Y bo f T U w h) (hnc : nc ≤ 601024) (hns : ns ≤ 7293034) (kk : lK X Y A Q bs bo i nc ns) : pw X Y.1 A Q 648 (lL Y bs bo i) [] h sz nc ns :=
  l_case hX hi hS hnc hns (n := 0) (p_hub hS.2.1 hS.2.2.1) (by decide) fv_L_82 fv_L_85 rfl rfl (fun U post H => t_X11_hub rfl H) (fun U post H => t_X12_hub rfl H) (by decide) (by decide) ⟨by decide +kernel, by decide +kernel, by decide +kernel, by decide +kernel, by decide +kernel, by decide +kernel⟩ (by decide +kernel) kk
theorem g_why (hX : lC X Y A bs bo Ls xs) (hi : i + 6 ≤ Ls) (hS : lS Y bo f T U w h) (hnc : nc ≤ 601024) (hns : ns ≤ 7293034) (kk : lK X Y A Q bs bo i nc ns) : pw X Y.1 A Q 661 (lL Y bs bo i) [] h sz nc ns :=
  l_case hX hi hS hnc hns (n := 3) (p_why (a1 := xs (i + 1)) (a2 := xs (i + 2)) (a3 := xs (i + 3)) hS.2.1 hS.2.2.1) (by decide) fv_L_86 fv_L_89 rfl rfl (fun U post H => t_X11_why rfl H) (fun U post H => t_X12_why rfl H) (by decide) (by decide) ⟨by decide +kernel, by decide +kernel, by decide +kernel, by decide +kernel, by decide +kernel, by decide +kernel⟩ (by decide +kernel) kk
theorem g_put (hX : lC X Y A bs bo Ls xs) (hi : i + 6 ≤ Ls) (hS : lS Y bo f T U w h) (hnc : nc ≤ 601024) (hns : ns ≤ 7293034) (kk : lK X Y A Q bs bo i nc ns) : pw X Y.1 A Q 710 (lL Y bs bo i) [] h sz nc ns :=
  l_case hX hi hS hnc hns (n := 3) (p_put (a1 := xs (i + 1)) (a2 := xs (i + 2)) (a3 := xs (i + 3)) hS.2.1 hS.2.2.1) (by decide) fv_L_90 fv_L_93 rfl rfl (fun U post H => t_X11_put rfl H) (fun U post H => t_X12_put rfl H) (by decide) (by decide) ⟨by decide +kernel, by decide +kernel, by decide +kernel, by decide +kernel, by decide +kernel, by decide +kernel⟩ (by decide +kernel) kk
theorem g_drop (hX : lC X Y A bs bo Ls xs) (hi : i + 6 ≤ Ls) (hS : lS Y bo f T U w h) (hnc : nc ≤ 601024) (hns : ns ≤ 7293034) (kk : lK X Y A Q bs bo i nc ns) : pw X Y.1 A Q 759 (lL Y bs bo i) [] h sz nc ns :=
  l_case hX hi hS hnc hns (n := 2) (p_drop (a1 := xs (i + 1)) (a2 := xs (i + 2)) hS.2.1 hS.2.2.1) (by decide) fv_L_94 fv_L_97 rfl rfl (fun U post H => t_X11_drop rfl H) (fun U post H => t_X12_drop rfl H) (by decide) (by decide) ⟨by decide +kernel, by decide +kernel, by decide +kernel, by decide +kernel, by decide +kernel, by decide +kernel⟩ (by decide +kernel) kk
theorem g_swap (hX : lC X Y A bs bo Ls xs) (hi : i + 6 ≤ Ls) (hS : lS Y bo f T U w h) (hnc : nc ≤ 601024) (hns : ns ≤ 7293034) (kk : lK X Y A Q bs bo i nc ns) : pw X Y.1 A Q 796 (lL Y bs bo i) [] h sz nc ns :=
  l_case hX hi hS hnc hns (n := 4) (p_swap (a1 := xs (i + 1)) (a2 := xs (i + 2)) (a3 := xs (i + 3)) (a4 := xs (i + 4)) hS.2.1 hS.2.2.1) (by decide) fv_L_98 fv_L_102 rfl rfl (fun U post H => t_X11_swap rfl H) (fun U post H => t_X12_swap rfl H) (by decide) (by decide) ⟨by decide +kernel, by decide +kernel, by decide +kernel, by decide +kernel, by decide +kernel, by decide +kernel⟩ (by decide +kernel) kk
theorem g_could (hX : lC X Y A bs bo Ls xs) (hi : i + 6 ≤ Ls) (hS : lS Y bo f T U w h) (hnc : nc ≤ 601024) (hns : ns ≤ 7293034) (kk : lK X Y A Q bs bo i nc ns) : pw X Y.1 A Q 857 (lL Y bs bo i) [] h sz nc ns :=
  l_case hX hi hS hnc hns (n := 4) (p_could (a1 := xs (i + 1)) (a2 := xs (i + 2)) (a3 := xs (i + 3)) (a4 := xs (i + 4)) hS.2.1 hS.2.2.1) (by decide) fv_L_103 fv_L_106 rfl rfl (fun U post H => t_X11_could rfl H) (fun U post H => t_X12_could rfl H) (by decide) (by decide) ⟨by decide +kernel, by decide +kernel, by decide +kernel, by decide +kernel, by decide +kernel, by decide +kernel⟩ (by decide +kernel) kk
theorem g_able (hX : lC X Y A bs bo Ls xs) (hi : i + 6 ≤ Ls) (hS : lS Y bo f T U w h) (hnc : nc ≤ 601024) (hns : ns ≤ 7293034) (kk : lK X Y A Q bs bo i nc ns) : pw X Y.1 A Q 918 (lL Y bs bo i) [] h sz nc ns :=
  l_case hX hi hS hnc hns (n := 2) (p_able (a1 := xs (i + 1)) (a2 := xs (i + 2)) hS.2.1 hS.2.2.1) (by decide) fv_L_107 fv_L_110 rfl rfl (fun U post H => t_X11_able rfl H) (fun U post H => t_X12_able rfl H) (by decide) (by decide) ⟨by decide +kernel, by decide +kernel, by decide +kernel, by decide +kernel, by decide +kernel, by decide +kernel⟩ (by decide +kernel) kk
theorem g_best (hX : lC X Y A bs bo Ls xs) (hi : i + 6 ≤ Ls) (hS : lS Y bo f T U w h) (hnc : nc ≤ 601024) (hns : ns ≤ 7293034) (kk : lK X Y A Q bs bo i nc ns) : pw X Y.1 A Q 955 (lL Y bs bo i) [] h sz nc ns :=
  l_case hX hi hS hnc hns (n := 2) (p_best (a1 := xs (i + 1)) (a2 := xs (i + 2)) hS.2.1 hS.2.2.1) (by decide) fv_L_111 fv_L_114 rfl rfl (fun U post H => t_X11_best rfl H) (fun U post H => t_X12_best rfl H) (by decide) (by decide) ⟨by decide +kernel, by decide +kernel, by decide +kernel, by decide +kernel, by decide +kernel, by decide +kernel⟩ (by decide +kernel) kk
theorem g_extra (hX : lC X Y A bs bo Ls xs) (hi : i + 6 ≤ Ls) (hS : lS Y bo f T U w h) (hnc : nc ≤ 601024) (hns : ns ≤ 7293034) (kk : lK X Y A Q bs bo i nc ns) : pw X Y.1 A Q 992 (lL Y bs bo i) [] h sz nc ns :=
  l_case hX hi hS hnc hns (n := 3) (p_extra (a1 := xs (i + 1)) (a2 := xs (i + 2)) (a3 := xs (i + 3)) hS.2.1 hS.2.2.1) (by decide) fv_L_115 fv_L_118 rfl rfl (fun U post H => t_X11_extra rfl H) (fun U post H => t_X12_extra rfl H) (by decide) (by decide) ⟨by decide +kernel, by decide +kernel, by decide +kernel, by decide +kernel, by decide +kernel, by decide +kernel⟩ (by decide +kernel) kk
theorem g_fee (hX : lC X Y A bs bo Ls xs) (hi : i + 6 ≤ Ls) (hS : lS Y bo f T U w h) (hnc : nc ≤ 601024) (hns : ns ≤ 7293034) (kk : lK X Y A Q bs bo i nc ns) : pw X Y.1 A Q 1041 (lL Y bs bo i) [] h sz nc ns :=
  l_caseL hX hi hS hnc hns (n := 3) (p_fee (a1 := xs (i + 1)) (a2 := xs (i + 2)) (a3 := xs (i + 3)) hS.2.1 hS.2.2.1) (by decide) fv_L_119 fv_L_123 rfl rfl (fun U post H => t_X11_fee rfl H) (fun U post H => t_X12_fee rfl H) (by decide) (by decide) ⟨by decide +kernel, by decide +kernel, by decide +kernel, by decide +kernel, by decide +kernel, by decide +kernel⟩ (by decide +kernel) kk
theorem g_fees (hX : lC X Y A bs bo Ls xs) (hi : i + 6 ≤ Ls) (hS : lS Y bo f T U w h) (hnc : nc ≤ 601024) (hns : ns ≤ 7293034) (kk : lK X Y A Q bs bo i nc ns) : pw X Y.1 A Q 1091 (lL Y bs bo i) [] h sz nc ns :=
  l_caseL hX hi hS hnc hns (n := 1) (p_fees (a1 := xs (i + 1)) hS.2.1 hS.2.2.1) (by decide) fv_L_124 fv_L_128 rfl rfl (fun U post H => t_X11_fees rfl H) (fun U post H => t_X12_fees rfl H) (by decide) (by decide) ⟨by decide +kernel, by decide +kernel, by decide +kernel, by decide +kernel, by decide +kernel, by decide +kernel⟩ (by decide +kernel) kk
theorem g_crew (hX : lC X Y A bs bo Ls xs) (hi : i + 6 ≤ Ls) (hS : lS Y bo f T U w h) (hnc : nc ≤ 601024) (hns : ns ≤ 7293034) (kk : lK X Y A Q bs bo i nc ns) : pw X Y.1 A Q 1117 (lL Y bs bo i) [] h sz nc ns :=
  l_case hX hi hS hnc hns (n := 2) (p_crew (a1 := xs (i + 1)) (a2 := xs (i + 2)) hS.2.1 hS.2.2.1) (by decide) fv_L_129 fv_L_132 rfl rfl (fun U post H => t_X11_crew rfl H) (fun U post H => t_X12_crew rfl H) (by decide) (by decide) ⟨by decide +kernel, by decide +kernel, by decide +kernel, by decide +kernel, by decide +kernel, by decide +kernel⟩ (by decide +kernel) kk
theorem g_fill (hX : lC X Y A bs bo Ls xs) (hi : i + 6 ≤ Ls) (hS : lS Y bo f T U w h) (hnc : nc ≤ 601024) (hns : ns ≤ 7293034) (kk : lK X Y A Q bs bo i nc ns) : pw X Y.1 A Q 1154 (lL Y bs bo i) [] h sz nc ns :=
  l_case hX hi hS hnc hns (n := 0) (p_fill hS.2.1 hS.2.2.1) (by decide) fv_L_133 fv_L_136 rfl rfl (fun U post H => t_X11_fill rfl H) (fun U post H => t_X12_fill rfl H) (by decide) (by decide) ⟨by decide +kernel, by decide +kernel, by decide +kernel, by decide +kernel, by decide +kernel, by decide +kernel⟩ (by decide +kernel) kk
theorem g_steps (hX : lC X Y A bs bo Ls xs) (hi : i + 6 ≤ Ls) (hS : lS Y bo f T U w h) (hnc : nc ≤ 601024) (hns : ns ≤ 7293034) (kk : lK X Y A Q bs bo i nc ns) : pw X Y.1 A Q 1167 (lL Y bs bo i) [] h sz nc ns :=
  l_case hX hi hS hnc hns (n := 3) (p_steps (a1 := xs (i + 1)) (a2 := xs (i + 2)) (a3 := xs (i + 3)) hS.2.1 hS.2.2.1) (by decide) fv_L_137 fv_L_140 rfl rfl (fun U post H => t_X11_steps rfl H) (fun U post H => t_X12_steps rfl H) (by decide) (by decide) ⟨by decide +kernel, by decide +kernel, by decide +kernel, by decide +kernel, by decide +kernel, by decide +kernel⟩ (by decide +kernel) kk
theorem g_unsound (hX : lC X Y A bs bo Ls xs) (hi : i + 6 ≤ Ls) (hS : lS Y bo f T U w h) (hnc : nc ≤ 601024) (hns : ns ≤ 7293034) (kk : lK X Y A Q bs bo i nc ns) : pw X Y.1 A Q 1216 (lL Y bs bo i) [] h sz nc ns :=
  l_case hX hi hS hnc hns (n := 1) (p_unsound (a1 := xs (i + 1)) hS.2.1 hS.2.2.1) (by decide) fv_L_141 fv_L_144 rfl rfl (fun U post H => t_X11_unsound rfl H) (fun U post H => t_X12_unsound rfl H) (by decide) (by decide) ⟨by decide +kernel, by decide +kernel, by decide +kernel, by decide +kernel, by decide +kernel, by decide +kernel⟩ (by decide +kernel) kk
theorem g_exchange (hX : lC X Y A bs bo Ls xs) (hi : i + 6 ≤ Ls) (hS : lS Y bo f T U w h) (hnc : nc ≤ 601024) (hns : ns ≤ 7293034) (kk : lK X Y A Q bs bo i nc ns) : pw X Y.1 A Q 1241 (lL Y bs bo i) [] h sz nc ns :=
  l_case hX hi hS hnc hns (n := 1) (p_exchange (a1 := xs (i + 1)) hS.2.1 hS.2.2.1) (by decide) fv_L_145 fv_L_148 rfl rfl (fun U post H => t_X11_exchange rfl H) (fun U post H => t_X12_exchange rfl H) (by decide) (by decide) ⟨by decide +kernel, by decide +kernel, by decide +kernel, by decide +kernel, by decide +kernel, by decide +kernel⟩ (by decide +kernel) kk
theorem g_round (hX : lC X Y A bs bo Ls xs) (hi : i + 6 ≤ Ls) (hS : lS Y bo f T U w h) (hnc : nc ≤ 601024) (hns : ns ≤ 7293034) (kk : lK X Y A Q bs bo i nc ns) : pw X Y.1 A Q 1266 (lL Y bs bo i) [] h sz nc ns :=
  l_case hX hi hS hnc hns (n := 2) (p_round (a1 := xs (i + 1)) (a2 := xs (i + 2)) hS.2.1 hS.2.2.1) (by decide) fv_L_149 fv_L_152 rfl rfl (fun U post H => t_X11_round rfl H) (fun U post H => t_X12_round rfl H) (by decide) (by decide) ⟨by decide +kernel, by decide +kernel, by decide +kernel, by decide +kernel, by decide +kernel, by decide +kernel⟩ (by decide +kernel) kk
theorem g_trip (hX : lC X Y A bs bo Ls xs) (hi : i + 6 ≤ Ls) (hS : lS Y bo f T U w h) (hnc : nc ≤ 601024) (hns : ns ≤ 7293034) (kk : lK X Y A Q bs bo i nc ns) : pw X Y.1 A Q 1303 (lL Y bs bo i) [] h sz nc ns :=
  l_case hX hi hS hnc hns (n := 3) (p_trip (a1 := xs (i + 1)) (a2 := xs (i + 2)) (a3 := xs (i + 3)) hS.2.1 hS.2.2.1) (by decide) fv_L_153 fv_L_156 rfl rfl (fun U post H => t_X11_trip rfl H) (fun U post H => t_X12_trip rfl H) (by decide) (by decide) ⟨by decide +kernel, by decide +kernel, by decide +kernel, by decide +kernel, by decide +kernel, by decide +kernel⟩ (by decide +kernel) kk
theorem g_spread (hX : lC X Y A bs bo Ls xs) (hi : i + 6 ≤ Ls) (hS : lS Y bo f T U w h) (hnc : nc ≤ 601024) (hns : ns ≤ 7293034) (kk : lK X Y A Q bs bo i nc ns) : pw X Y.1 A Q 1352 (lL Y bs bo i) [] h sz nc ns :=
  l_case hX hi hS hnc hns (n := 1) (p_spread (a1 := xs (i + 1)) hS.2.1 hS.2.2.1) (by decide) fv_L_157 fv_L_160 rfl rfl (fun U post H => t_X11_spread rfl H) (fun U post H => t_X12_spread rfl H) (by decide) (by decide) ⟨by decide +kernel, by decide +kernel, by decide +kernel, by decide +kernel, by decide +kernel, by decide +kernel⟩ (by decide +kernel) kk
theorem g_day (hX : lC X Y A bs bo Ls xs) (hi : i + 6 ≤ Ls) (hS : lS Y bo f T U w h) (hnc : nc ≤ 601024) (hns : ns ≤ 7293034) (kk : lK X Y A Q bs bo i nc ns) : pw X Y.1 A Q 1377 (lL Y bs bo i) [] h sz nc ns :=
  l_case hX hi hS hnc hns (n := 0) (p_day hS.2.1 hS.2.2.1) (by decide) fv_L_161 fv_L_164 rfl rfl (fun U post H => t_X11_day rfl H) (fun U post H => t_X12_day rfl H) (by decide) (by decide) ⟨by decide +kernel, by decide +kernel, by decide +kernel, by decide +kernel, by decide +kernel, by decide +kernel⟩ (by decide +kernel) kk
theorem g_play (hX : lC X Y A bs bo Ls xs) (hi : i + 6 ≤ Ls) (hS : lS Y bo f T U w h) (hnc : nc ≤ 601024) (hns : ns ≤ 7293034) (kk : lK X Y A Q bs bo i nc ns) : pw X Y.1 A Q 1390 (lL Y bs bo i) [] h sz nc ns :=
  l_case hX hi hS hnc hns (n := 1) (p_play (a1 := xs (i + 1)) hS.2.1 hS.2.2.1) (by decide) fv_L_165 fv_L_168 rfl rfl (fun U post H => t_X11_play rfl H) (fun U post H => t_X12_play rfl H) (by decide) (by decide) ⟨by decide +kernel, by decide +kernel, by decide +kernel, by decide +kernel, by decide +kernel, by decide +kernel⟩ (by decide +kernel) kk
theorem g_mark (hX : lC X Y A bs bo Ls xs) (hi : i + 6 ≤ Ls) (hS : lS Y bo f T U w h) (hnc : nc ≤ 601024) (hns : ns ≤ 7293034) (kk : lK X Y A Q bs bo i nc ns) : pw X Y.1 A Q 1415 (lL Y bs bo i) [] h sz nc ns :=
  l_case hX hi hS hnc hns (n := 3) (p_mark (a1 := xs (i + 1)) (a2 := xs (i + 2)) (a3 := xs (i + 3)) hS.2.1 hS.2.2.1) (by decide) fv_L_169 fv_L_172 rfl rfl (fun U post H => t_X11_mark rfl H) (fun U post H => t_X12_mark rfl H) (by decide) (by decide) ⟨by decide +kernel, by decide +kernel, by decide +kernel, by decide +kernel, by decide +kernel, by decide +kernel⟩ (by decide +kernel) kk
theorem g_review (hX : lC X Y A bs bo Ls xs) (hi : i + 6 ≤ Ls) (hS : lS Y bo f T U w h) (hnc : nc ≤ 601024) (hns : ns ≤ 7293034) (kk : lK X Y A Q bs bo i nc ns) : pw X Y.1 A Q 1464 (lL Y bs bo i) [] h sz nc ns :=
  l_case hX hi hS hnc hns (n := 2) (p_review (a1 := xs (i + 1)) (a2 := xs (i + 2)) hS.2.1 hS.2.2.1) (by decide) fv_L_173 fv_L_176 rfl rfl (fun U post H => t_X11_review rfl H) (fun U post H => t_X12_review rfl H) (by decide) (by decide) ⟨by decide +kernel, by decide +kernel, by decide +kernel, by decide +kernel, by decide +kernel, by decide +kernel⟩ (by decide +kernel) kk
theorem g_rank (hX : lC X Y A bs bo Ls xs) (hi : i + 6 ≤ Ls) (hS : lS Y bo f T U w h) (hnc : nc ≤ 601024) (hns : ns ≤ 7293034) (kk : lK X Y A Q bs bo i nc ns) : pw X Y.1 A Q 1501 (lL Y bs bo i) [] h sz nc ns :=
  l_case hX hi hS hnc hns (n := 1) (p_rank (a1 := xs (i + 1)) hS.2.1 hS.2.2.1) (by decide) fv_L_177 fv_L_180 rfl rfl (fun U post H => t_X11_rank rfl H) (fun U post H => t_X12_rank rfl H) (by decide) (by decide) ⟨by decide +kernel, by decide +kernel, by decide +kernel, by decide +kernel, by decide +kernel, by decide +kernel⟩ (by decide +kernel) kk
theorem g_undo (hX : lC X Y A bs bo Ls xs) (hi : i + 6 ≤ Ls) (hS : lS Y bo f T U w h) (hnc : nc ≤ 601024) (hns : ns ≤ 7293034) (kk : lK X Y A Q bs bo i nc ns) : pw X Y.1 A Q 1526 (lL Y bs bo i) [] h sz nc ns :=
  l_case hX hi hS hnc hns (n := 0) (p_undo hS.2.1 hS.2.2.1) (by decide) fv_L_181 fv_L_184 rfl rfl (fun U post H => t_X11_undo rfl H) (fun U post H => t_X12_undo rfl H) (by decide) (by decide) ⟨by decide +kernel, by decide +kernel, by decide +kernel, by decide +kernel, by decide +kernel, by decide +kernel⟩ (by decide +kernel) kk
set_option maxHeartbeats 4000000 in
theorem l_body (hX : lC X Y A bs bo Ls xs) (hi : i + 6 ≤ Ls) (hS : lS Y bo f T U w h) (hnc : nc + 1 ≤ 601024) (hns : ns + 6 ≤ 7293034) (kk : lK X Y A Q bs bo i nc ns) : pw X Y.1 A Q 33 (lL Y bs bo i) [] h sz nc ns := by
  have hC := hX.1
  have hL := hX.2.2.2.2.2.2.2
  have n1 : nc ≤ 601024 := by omega
  have n2 : ns ≤ 7293034 := by omega
  refine pr_aload_n hC (by decide +kernel : decode code 33 = .ok (.aload_n 0, 1)) rfl ?_
  refine pr_iload hC (by decide +kernel : decode code 34 = .ok (.iload 4, 2)) rfl ?_
  refine pr_sld hX (vp_jI (by omega) (by omega) (by omega)) (by decide +kernel : decode code 36 = .ok (.iaload, 1)) ?_
  refine pr_bipush hC 63 (by decide +kernel : decode code 37 = .ok (.bipush 63, 2)) (by decide) ?_
  refine pr_iand hC (by decide +kernel : decode code 39 = .ok (.iand, 1)) ?_
  generalize xs (jI (i : Int)).toNatClampNeg &&& 63 = x
  refine pv_table hC (by decide +kernel : decode code 40 = .ok (.tableswitch 1761 0 39 #[176, 249, 274, 287, 312, 337, 386, 423, 448, 485, 534, 571, 608, 621, 670, 719, 756, 817, 878, 915, 952, 1001, 1051, 1077, 1114, 1127, 1176, 1201, 1226, 1263, 1312, 1337, 1350, 1375, 1424, 1461, 1486, 1499, 1579, 1694], 176)) 1801 (by decide) (fun _ => pr_widen (Nat.le_add_right _ _) (Nat.le_add_right _ _) (kk T U w f h sz hS)) (fun q => ?_)
  have hk : (x.toInt - 0).toNat < 40 := by omega
  generalize (x.toInt - 0).toNat = k at hk ⊢
  match k, hk with
  | 0, _ => exact ⟨176, 216, rfl, by decide, g_feed hX hi hS n1 n2 kk⟩
  | 1, _ => exact ⟨249, 289, rfl, by decide, g_end hX hi hS n1 n2 kk⟩
  | 2, _ => exact ⟨274, 314, rfl, by decide, g_week hX hS n1 n2 kk⟩
  | 3, _ => exact ⟨287, 327, rfl, by decide, g_fault hX hi hS n1 n2 kk⟩
  | 4, _ => exact ⟨312, 352, rfl, by decide, g_has hX hi hS n1 n2 kk⟩
  | 5, _ => exact ⟨337, 377, rfl, by decide, g_letter hX hi hS n1 n2 kk⟩
  | 6, _ => exact ⟨386, 426, rfl, by decide, g_one hX hi hS n1 n2 kk⟩
  | 7, _ => exact ⟨423, 463, rfl, by decide, g_formBits hX hi hS n1 n2 kk⟩
  | 8, _ => exact ⟨448, 488, rfl, by decide, g_game hX hi hS n1 n2 kk⟩
  | 9, _ => exact ⟨485, 525, rfl, by decide, g_seat hX hi hS n1 n2 kk⟩
  | 10, _ => exact ⟨534, 574, rfl, by decide, g_way hX hi hS n1 n2 kk⟩
  | 11, _ => exact ⟨571, 611, rfl, by decide, g_toward hX hi hS n1 n2 kk⟩
  | 12, _ => exact ⟨608, 648, rfl, by decide, g_hub hX hi hS n1 n2 kk⟩
  | 13, _ => exact ⟨621, 661, rfl, by decide, g_why hX hi hS n1 n2 kk⟩
  | 14, _ => exact ⟨670, 710, rfl, by decide, g_put hX hi hS n1 n2 kk⟩
  | 15, _ => exact ⟨719, 759, rfl, by decide, g_drop hX hi hS n1 n2 kk⟩
  | 16, _ => exact ⟨756, 796, rfl, by decide, g_swap hX hi hS n1 n2 kk⟩
  | 17, _ => exact ⟨817, 857, rfl, by decide, g_could hX hi hS n1 n2 kk⟩
  | 18, _ => exact ⟨878, 918, rfl, by decide, g_able hX hi hS n1 n2 kk⟩
  | 19, _ => exact ⟨915, 955, rfl, by decide, g_best hX hi hS n1 n2 kk⟩
  | 20, _ => exact ⟨952, 992, rfl, by decide, g_extra hX hi hS n1 n2 kk⟩
  | 21, _ => exact ⟨1001, 1041, rfl, by decide, g_fee hX hi hS n1 n2 kk⟩
  | 22, _ => exact ⟨1051, 1091, rfl, by decide, g_fees hX hi hS n1 n2 kk⟩
  | 23, _ => exact ⟨1077, 1117, rfl, by decide, g_crew hX hi hS n1 n2 kk⟩
  | 24, _ => exact ⟨1114, 1154, rfl, by decide, g_fill hX hi hS n1 n2 kk⟩
  | 25, _ => exact ⟨1127, 1167, rfl, by decide, g_steps hX hi hS n1 n2 kk⟩
  | 26, _ => exact ⟨1176, 1216, rfl, by decide, g_unsound hX hi hS n1 n2 kk⟩
  | 27, _ => exact ⟨1201, 1241, rfl, by decide, g_exchange hX hi hS n1 n2 kk⟩
  | 28, _ => exact ⟨1226, 1266, rfl, by decide, g_round hX hi hS n1 n2 kk⟩
  | 29, _ => exact ⟨1263, 1303, rfl, by decide, g_trip hX hi hS n1 n2 kk⟩
  | 30, _ => exact ⟨1312, 1352, rfl, by decide, g_spread hX hi hS n1 n2 kk⟩
  | 31, _ => exact ⟨1337, 1377, rfl, by decide, g_day hX hi hS n1 n2 kk⟩
  | 32, _ => exact ⟨1350, 1390, rfl, by decide, g_play hX hi hS n1 n2 kk⟩
  | 33, _ => exact ⟨1375, 1415, rfl, by decide, g_mark hX hi hS n1 n2 kk⟩
  | 34, _ => exact ⟨1424, 1464, rfl, by decide, g_review hX hi hS n1 n2 kk⟩
  | 35, _ => exact ⟨1461, 1501, rfl, by decide, g_rank hX hi hS n1 n2 kk⟩
  | 36, _ => exact ⟨1486, 1526, rfl, by decide, g_undo hX hi hS n1 n2 kk⟩
  | 37, _ => exact ⟨1499, 1539, rfl, by decide, g_shelf hX hi hS hnc hns kk⟩
  | 38, _ => exact ⟨1579, 1619, rfl, by decide, g_lay hX hi hS hnc hns kk⟩
  | 39, _ => exact ⟨1694, 1734, rfl, by decide, g_look hX hi hS hnc hns kk⟩
  | k + 40, hk => exact absurd hk (by omega)
theorem l_loop (hX : lC X Y A bs bo Ls xs) (kx : ∀ (h : pe_H) (sz nc ns : Nat), nc ≤ 601024 → ns ≤ 7293034 → pw X Y.1 A Q 1807 [] [] h sz nc ns) : ∀ (n i : Nat) (T : Tm) (U : Um) (w : Nat) (f : Nat → Int64) (h : pe_H) (sz nc ns : Nat), i ≤ Ls → Ls < i + 6 * n → nc + Ls ≤ 10000 + i → ns + Ls ≤ 100000 + i → lS Y bo f T U w h → pw X Y.1 A Q 23 (lL Y bs bo i) [] h sz nc ns := by
  have hC := hX.1
  have hL := hX.2.2.2.2.2.2.2
  intro n
  induction n with
  | zero =>
    intro i T U w f h sz nc ns q0 q1
    omega
  | succ n ih =>
    intro i T U w f h sz nc ns q0 q1 q2 q3 hS
    refine pr_iload hC (by decide +kernel : decode code 23 = .ok (.iload 4, 2)) rfl ?_
    refine pr_aload_n hC (by decide +kernel : decode code 25 = .ok (.aload_n 0, 1)) rfl ?_
    refine pr_slen hX (by decide +kernel : decode code 26 = .ok (.arraylength, 1)) ?_
    refine pr_bipush hC 6 (by decide +kernel : decode code 27 = .ok (.bipush 6, 2)) (by decide) ?_
    refine pr_isub hC (by decide +kernel : decode code 29 = .ok (.isub, 1)) ?_
    have e : Int32.ofNat Ls - 6 = jI ((Ls : Int) - 6) := by
      rw [← jI_sub]
      rfl
    rw [e]
    refine pr_icmp_gt hC 1807 (by decide +kernel : decode code 30 = .ok (.if_icmp .gt 1777, 3)) (by decide) (fun _ => ?_) (fun c => ?_)
    · exact pr_sub (L' := []) (fun i v z => by simp at z) (kx h sz nc ns (by omega) (by omega))
    · rw [jI_lt ⟨by omega, by omega⟩ ⟨by omega, by omega⟩] at c
      refine l_body hX (by omega) hS (by omega) (by omega) (fun T' U' w' f' h' sz' hS' => ?_)
      refine pv_iinc (v := jI ((i + 6 : Nat) : Int)) hC (by decide +kernel : decode code 1801 = .ok (.iinc 4 6, 3)) rfl (by decide) rfl (by
        show jI (i : Int) + jI 6 = _
        rw [jI_add]
        rfl) (fun y hy => ?_)
      subst hy
      refine pr_goto hC 23 (by decide +kernel : decode code 1804 = .ok (.goto (-1781), 3)) (by decide) ?_
      exact ih (i + 6) T' U' w' f' h' sz' (nc + 1) (ns + 6) (by omega) (by omega) (by omega) (by omega) hS'
end LAWU
