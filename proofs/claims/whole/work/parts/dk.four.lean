/-! end, week, shelf, lay, look: one call of each side -/
section LAWQ
variable {X : px_X} {Y : px_Y} {A : Nat → Prop} {Q : State → Prop} {bs bo Ls : Nat} {xs : Nat → Int32} {i : Nat} {L : List (Option Value)} {st : List Value} {h : pe_H} {sz nc ns : Nat} {T : Tm} {U : Um} {w : Nat} {f : Nat → Int64}
theorem p_end {a1 : Int32} (hI : IA T) (hA : CA U T w) : pG (w_X11_end 0 a1) (w_X12_end 55 a1) U T w := by
  by_cases c : 0 ≤ a1.toInt ∧ a1.toInt ≤ T 17 0
  · exact ⟨1, cif (0 ≤ a1.toInt ∧ a1.toInt ≤ T 17 0) (up T 17 0 a1.toInt) T, w, IA_end hI, x_X11_end hA hI.1.1 hI.1.2.2.1 (jI_of _).symm (r32_of _) (fun V hV hf _ => ⟨rfl, by rw [cif_t c]; exact hV, k55_f hf (fun k z => by omega)⟩) (fun q => absurd c q), fun V _ hM => s_X12_end hM (jI_of _).symm hI.1.2.2.1.1.1 hI.1.2.2.1.1.2 (r32_of _) (fun U2 h2 hf _ => ⟨rfl, h2, hf⟩) (fun _ _ _ q => absurd c q)⟩
  · exact ⟨0, cif (0 ≤ a1.toInt ∧ a1.toInt ≤ T 17 0) (up T 17 0 a1.toInt) T, w, IA_end hI, x_X11_end hA hI.1.1 hI.1.2.2.1 (jI_of _).symm (r32_of _) (fun _ _ _ q => absurd q c) (fun _ => ⟨rfl, by rw [cif_f c]; exact hA, fun _ => ⟨rfl, rfl, rfl, rfl⟩⟩), fun V _ hM => s_X12_end hM (jI_of _).symm hI.1.2.2.1.1.1 hI.1.2.2.1.1.2 (r32_of _) (fun _ _ _ q => absurd q c) (fun U2 h2 hf _ => ⟨rfl, h2, hf⟩)⟩
theorem g_week (hX : lC X Y A bs bo Ls xs) (hS : lS Y bo f T U w h) (hnc : nc ≤ 601024) (hns : ns ≤ 7293034) (kk : lK X Y A Q bs bo i nc ns) : pw X Y.1 A Q 314 (lL Y bs bo i) [] h sz nc ns := by
  obtain ⟨hC, hR, hl, hw, hz, hx, hb, hL⟩ := id hX
  obtain ⟨hU, hI, hA, hM⟩ := hS
  refine pr_aload_n hC (by decide +kernel : decode code 314 = .ok (.aload_n 1, 1)) rfl ?_
  refine vc_Vi hC hR [] (rest := []) (post := fun r V => (∃ k p, weekR T (D0o U T) = .error (k, p) ∧ r = -1 ∧ CA V (weekE T k p) w ∧ k55 U V) ∨ ∃ D g, weekR T (D0o U T) = .ok (D, g) ∧ r = jI (D 11 10) ∧ ID D g ∧ D 15 0 ≤ 1200 ∧ CAw V T D (9 - w) ∧ k55 U V) fv_L_39 (by decide +kernel : decode code 315 = .ok (.invokevirtual 39, 3)) hU (t_X11_week rfl (x_X11_week hA hI.1.1 hI.1.2.2.1 D0_e (fun k p V e hV hk => Or.inl ⟨k, p, e, rfl, hV, hk⟩) (fun D g V e iD _ hl hV hk => Or.inr ⟨D, g, e, rfl, iD, hl, hV, hk⟩))) rfl (by decide) rfl rfl rfl (Nat.zero_le 8) (by decide) hnc hns (fun v1 U1 h1 hp1 hU1 => ?_)
  refine pr_aload_n hC (by decide +kernel : decode code 318 = .ok (.aload_n 2, 1)) rfl ?_
  rcases hp1 with ⟨k, p, e, rfl, hA1, hk1⟩ | ⟨D, g, e, rfl, iD, hl2, hA1, hk1⟩
  · refine vc_Vi hC hR [] (rest := [.int (-1)]) (post := fun r V => r = jI (-1) ∧ M V (weekE T k p) ∧ fM U1 V) fv_L_43 (by decide +kernel : decode code 319 = .ok (.invokevirtual 43, 3)) hU1 (t_X12_week rfl (s_week2 (M_55 hk1 hM) hI.1.2.2.1 (by
      rw [D0_55 hk1, e]
      exact fun Z mZ fZ => ⟨rfl, mZ, fZ⟩))) rfl (by decide) rfl rfl rfl (Nat.le_of_ble_eq_true rfl) (by decide) hnc hns (fun v2 U2 h2 hp2 hU2 => ?_)
    obtain ⟨rfl, hM2, hf2⟩ := hp2
    refine pr_icmp_eq hC 1801 (by decide +kernel : decode code 322 = .ok (.if_icmp .eq 1479, 3)) (by decide) (fun _ => ?_) (fun c => absurd rfl c)
    exact pr_widen (Nat.le_add_right _ _) (Nat.le_add_right _ _) (kk _ U2 w f h2 sz ⟨hU2, IA_wE hI, CA_fM (IA_wE hI).1.1 hf2 hA1, hM2⟩)
  · refine vc_Vi hC hR [] (rest := [.int (jI (D 11 10))]) (post := fun r V => r = jI (D 11 10) ∧ Off T D ∧ M V (weekK D) ∧ fM U1 V) fv_L_43 (by decide +kernel : decode code 319 = .ok (.invokevirtual 43, 3)) hU1 (t_X12_week rfl (s_week2 (M_55 hk1 hM) hI.1.2.2.1 (by
      rw [D0_55 hk1, e]
      exact fun Z mZ ho fZ => ⟨rfl, ho, mZ, fZ⟩))) rfl (by decide) rfl rfl rfl (Nat.le_of_ble_eq_true rfl) (by decide) hnc hns (fun v2 U2 h2 hp2 hU2 => ?_)
    obtain ⟨rfl, ho, hM2, hf2⟩ := hp2
    refine pr_icmp_eq hC 1801 (by decide +kernel : decode code 322 = .ok (.if_icmp .eq 1479, 3)) (by decide) (fun _ => ?_) (fun c => absurd rfl c)
    have hI2 := IA_wK hI ho iD hl2
    exact pr_widen (Nat.le_add_right _ _) (Nat.le_add_right _ _) (kk _ U2 (9 - w) f h2 sz ⟨hU2, hI2, CA_fM hI2.1.1 hf2 (CAw_A ho hA1), hM2⟩)
/-- what one of the shelves' three calls leaves: what was thrown (0: nothing), what was answered -/
def lP (U : Um) (T2 : Tm) (w : Nat) (R : Int) (Z : Int64) : Int32 → Int64 → Um → Prop := fun k z V => k = jI R ∧ (R = 0 → z = Z) ∧ CA V T2 w ∧ k55 U V
theorem k55_i {U : Um} : k55 U U := fun _ => ⟨rfl, rfl, rfl, rfl⟩
theorem y_shelf {a1 a2 a3 : Int32} {s v n : Int} (e1 : a1 = jI s) (e2 : a2 = jI v) (e3 : a3 = jI n) (rs : r32 s) (rv : r32 v) (rn : r32 n) (hI : IA T) (hA : CA U T w) (x0 : Int64) : w_xshelf a1 a2 a3 U (fun r V => lP U (shT T s v n) w (shTh s v n) (jL n) 0 (Int32.toInt64 r) V) (fun E V => (E = xN → lP U (shT T s v n) w (shTh s v n) (jL n) 1 x0 V) ∧ (E = xI → lP U (shT T s v n) w (shTh s v n) (jL n) 2 x0 V) ∧ (E = xN ∨ E = xI)) := by
  subst e1; subst e2; subst e3
  have no : shTh s v n ≠ 0 → CA U (shT T s v n) w := fun q => by
    unfold shT
    rw [cif_f q]
    exact hA
  refine x_xshelf hA hI.1.1 hI.1.2.2.2.1 rs rv rn (fun V z hV hf => ⟨by rw [z]; rfl, fun _ => jI_L rn, hV, k55_f hf (fun k z => by omega)⟩) (fun z => ⟨fun _ => ⟨by rw [z]; rfl, fun q => by omega, no (by omega), k55_i⟩, fun q => absurd q (by decide), Or.inl rfl⟩) (fun z => ⟨fun q => absurd q (by decide), fun _ => ⟨by rw [z]; rfl, fun q => by omega, no (by omega), k55_i⟩, Or.inr rfl⟩)
theorem y_lay {a1 a2 a3 a4 : Int32} {s p o n : Int} (e1 : a1 = jI s) (e2 : a2 = jI p) (e3 : a3 = jI o) (e4 : a4 = jI n) (rs : r32 s) (rp : r32 p) (ro : r32 o) (hn : n = 0 ∨ n = 1) (hI : IA T) (hA : CA U T w) (x0 : Int64) : w_xlay a1 a2 a3 a4 U (fun r V => (r = 0 → lP U (layT T s p o n) w (if layA T s p o then 0 else 1) (jL (layS T s p o n)) 0 0 V) ∧ (¬ r = 0 → lP U (layT T s p o n) w (if layA T s p o then 0 else 1) (jL (layS T s p o n)) 0 1 V)) (fun E V => lP U (layT T s p o n) w (if layA T s p o then 0 else 1) (jL (layS T s p o n)) 1 x0 V ∧ E = xN) := by
  subst e1; subst e2; subst e3; subst e4
  refine x_xlay hA hI.1.1 hI.2.1 hI.2.2.1 hI.1.2.2.2.1 rs rp ro hn (fun V z hV hf => ?_) (fun z => ⟨⟨by rw [if_neg z]; rfl, fun q => by rw [if_neg z] at q; omega, ?_, k55_i⟩, rfl⟩)
  · rw [if_pos z]
    have hk : k55 U V := k55_f hf (fun k z => by omega)
    by_cases q : layA T s p o ∧ (T 51 s = 1 ↔ n ≠ 0)
    · have e : layS T s p o n = 1 := cif_t q
      rw [e]
      exact ⟨fun c => absurd c (by decide), fun _ => ⟨rfl, fun _ => rfl, hV, hk⟩⟩
    · have e : layS T s p o n = 0 := cif_f q
      rw [e]
      exact ⟨fun _ => ⟨rfl, fun _ => rfl, hV, hk⟩, fun c => absurd rfl c⟩
  · unfold layT
    rw [cif_f (fun q => z q.1)]
    exact hA
theorem y_look {a1 a2 : Int32} {s p : Int} (e1 : a1 = jI s) (e2 : a2 = jI p) (rs : r32 s) (rp : r32 p) (hI : IA T) (hA : CA U T w) (x0 : Int64) : w_xlook a1 a2 U (fun r V => lP U T w (if isPl T s p then 0 else 1) (jL (lookS T s p)) 0 r V) (fun E V => lP U T w (if isPl T s p then 0 else 1) (jL (lookS T s p)) 1 x0 V ∧ E = xN) := by
  subst e1; subst e2
  exact x_xlook hA hI.1.2.2.2.1 hI.1.2.2.2.2 rs rp (fun z => ⟨by rw [if_pos z]; rfl, fun _ => rfl, hA, k55_i⟩) (fun z => ⟨⟨by rw [if_neg z]; rfl, fun q => by rw [if_neg z] at q; omega, hA, k55_i⟩, rfl⟩)
theorem lL_sub {a b c : Option Value} : pl_sub (lL Y bs bo i) [some (.ref bs), some (.ref (Y.2.1 0)), some (.ref (Y.2.1 55)), some (.ref bo), some (.int (jI (i : Int))), a, b, c] := by
  unfold lL
  exact ⟨rfl, rfl, rfl, rfl, rfl, trivial⟩
theorem fw_185 : pc_W RL 185 yL_shelf cL_shelf 6 (some .int) [(0, 12, 15, 13), (0, 12, 19, 15)] 5 := ⟨⟨lw_in 1194 (by decide +kernel) rfl, lw_in 115 (by decide +kernel) rfl, lw_in 1196 (by decide +kernel) rfl, ⟨by decide +kernel, by decide +kernel, by decide +kernel⟩, by decide⟩, lw_in 1195 (by decide +kernel) rfl⟩
theorem fw_194 : pc_W RL 194 yL_lay cL_lay 7 (some .int) [(0, 21, 24, 13)] 6 := ⟨⟨lw_in 1293 (by decide +kernel) rfl, lw_in 115 (by decide +kernel) rfl, lw_in 1295 (by decide +kernel) rfl, ⟨by decide +kernel, by decide +kernel, by decide +kernel⟩, by decide⟩, lw_in 1294 (by decide +kernel) rfl⟩
theorem fw_198 : pc_W RL 198 yL_look cL_look 5 (some .int) [(0, 9, 12, 13)] 4 := ⟨⟨lw_in 1305 (by decide +kernel) rfl, lw_in 115 (by decide +kernel) rfl, lw_in 1307 (by decide +kernel) rfl, ⟨by decide +kernel, by decide +kernel, by decide +kernel⟩, by decide⟩, lw_in 1306 (by decide +kernel) rfl⟩
end LAWQ
