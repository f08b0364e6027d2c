/-! the law's loop: what holds at its head; one call of each side -/
section LAW
variable {X : px_X} {Y : px_Y} {A : Nat → Prop} {Q : State → Prop} {bs bo Ls : Nat} {xs : Nat → Int32} {i pc : Nat} {L : List (Option Value)} {st : List Value} {h : pe_H} {sz nc ns : Nat} {T : Tm} {U : Um} {w : Nat} {f : Nat → Int64}
def lC (X : px_X) (Y : px_Y) (A : Nat → Prop) (bs bo Ls : Nat) (xs : Nat → Int32) : Prop :=
  px_C X Y.1 A code RL 8 ∧ X.2.2.2.1 = pm_rm 2048 601024 7293034 ∧ X.2.1.stackTraces = false ∧ px_w X.2.2.2.2.1 ∧ px_z A X.2.2.2.2.1 X.2.2.2.2.1.heap ∧ (va_X bs Ls xs X.2.2.2.2.1 X.2.2.2.2.1.heap ∧ bs < X.2.2.2.2.1.heap.size ∧ ¬ A bs) ∧ ¬ dU Y bo ∧ Ls ≤ 3072
def lL (Y : px_Y) (bs bo i : Nat) : List (Option Value) := [some (.ref bs), some (.ref (Y.2.1 0)), some (.ref (Y.2.1 55)), some (.ref bo), some (.int (jI (i : Int))), none, none, none]
def lS (Y : px_Y) (bo : Nat) (f : Nat → Int64) (T : Tm) (U : Um) (w : Nat) (h : pe_H) : Prop := rF Y (lO Y bo f) U h ∧ IA T ∧ CA U T w ∧ M U T
def lK (X : px_X) (Y : px_Y) (A : Nat → Prop) (Q : State → Prop) (bs bo i nc ns : Nat) : Prop := ∀ (T' : Tm) (U' : Um) (w' : Nat) (f' : Nat → Int64) (h' : pe_H) (sz' : Nat), lS Y bo f' T' U' w' h' → pw X Y.1 A Q 1801 (lL Y bs bo i) [] h' sz' (nc + 1) (ns + 6)
def lA (xs : Nat → Int32) (i : Nat) : Nat → List Value
  | 0 => []
  | n + 1 => lA xs i n ++ [.int (xs (i + (n + 1)))]
theorem lA_len (n : Nat) : (lA xs i n).length = n := by
  induction n with
  | zero => rfl
  | succ n ih => rw [lA, List.length_append, ih]; rfl
abbrev lD (pc k : Nat) : Prop := decode code pc = .ok (.aload_n 0, 1) ∧ decode code (pc + 1) = .ok (.iload 4, 2) ∧ decode code (pc + 3) = .ok (.iconst (k : Int), 1) ∧ decode code (pc + 4) = .ok (.iadd, 1) ∧ decode code (pc + 5) = .ok (.iaload, 1)
theorem pr_sld (hX : lC X Y A bs bo Ls xs) {k : Int32} (hk : vp_in k Ls) (hd : decode code pc = .ok (.iaload, 1)) (kk : pw X Y.1 A Q (pc + 1) L (.int (xs k.toNatClampNeg) :: st) h sz nc ns) : pw X Y.1 A Q pc L (.int k :: .ref bs :: st) h sz nc ns :=
  fun H locs ls a1 a2 a3 a4 a5 => va_sld hX.1.1 hX.1.2.1 hX.2.2.2.2.2.1.1 hX.2.2.2.2.2.1.2.1 hX.2.2.2.2.2.1.2.2 a4 hk hd (kk H locs ls a1 a2 a3 a4 a5)
theorem pr_slen (hX : lC X Y A bs bo Ls xs) (hd : decode code pc = .ok (.arraylength, 1)) (kk : pw X Y.1 A Q (pc + 1) L (.int (Int32.ofNat Ls) :: st) h sz nc ns) : pw X Y.1 A Q pc L (.ref bs :: st) h sz nc ns :=
  fun H locs ls a1 a2 a3 a4 a5 => va_slen hX.1.1 hX.1.2.1 hX.2.2.2.2.2.1.1 hX.2.2.2.2.2.1.2.1 hX.2.2.2.2.2.1.2.2 a4 hd (kk H locs ls a1 a2 a3 a4 a5)
theorem l_ld (hX : lC X Y A bs bo Ls xs) (hi : i + 6 ≤ Ls) {k : Nat} (hk : k ≤ 5) (h0 : L[0]? = some (some (.ref bs))) (h4 : L[4]? = some (some (.int (jI (i : Int))))) (hd : lD pc k) (kk : pw X Y.1 A Q (pc + 6) L (.int (xs (i + k)) :: st) h sz nc ns) : pw X Y.1 A Q pc L st h sz nc ns := by
  have hL := hX.2.2.2.2.2.2.2
  obtain ⟨d0, d1, d3, d4, d5⟩ := hd
  refine pr_aload_n hX.1 d0 h0 ?_
  refine pr_iload hX.1 d1 h4 ?_
  refine pr_iconst hX.1 (jI (k : Int)) d3 rfl ?_
  refine pr_iadd hX.1 d4 ?_
  rw [jI_add]
  have e : (jI ((i : Int) + (k : Int))).toNatClampNeg = i + k := by
    rw [jI_nat (by omega) (by omega)]
    omega
  refine pr_sld hX (vp_jI (by omega) (by omega) (by omega)) d5 ?_
  rw [e]
  exact kk
theorem l_lds (hX : lC X Y A bs bo Ls xs) (hi : i + 6 ≤ Ls) (h0 : L[0]? = some (some (.ref bs))) (h4 : L[4]? = some (some (.int (jI (i : Int))))) : ∀ n : Nat, n ≤ 5 → (∀ j, j < n → lD (pc + 6 * j) (j + 1)) → pw X Y.1 A Q (pc + 6 * n) L ((lA xs i n).reverse ++ st) h sz nc ns → pw X Y.1 A Q pc L st h sz nc ns
  | 0, _, _, kk => kk
  | n + 1, hn, hd, kk => l_lds hX hi h0 h4 n (by omega) (fun j hj => hd j (by omega)) (l_ld hX hi (k := n + 1) hn h0 h4 (hd n (by omega)) (by
      rw [lA, List.reverse_append] at kk
      exact kk))
/-- both sides answer alike, and stay alike -/
def pG (F G : Um → (Int32 → Um → Prop) → Prop) (U : Um) (T : Tm) (w : Nat) : Prop := ∃ (R : Int32) (T2 : Tm) (w2 : Nat), IA T2 ∧ F U (fun r V => r = R ∧ CA V T2 w2 ∧ k55 U V) ∧ ∀ V : Um, k55 U V → M V T → G V (fun r Z => r = R ∧ M Z T2 ∧ fM V Z)
def pGl (F G : Um → (Int64 → Um → Prop) → Prop) (U : Um) (T : Tm) (w : Nat) : Prop := ∃ (R : Int64) (T2 : Tm) (w2 : Nat), IA T2 ∧ F U (fun r V => r = R ∧ CA V T2 w2 ∧ k55 U V) ∧ ∀ V : Um, k55 U V → M V T → G V (fun r Z => r = R ∧ M Z T2 ∧ fM V Z)
abbrev lE (pc n i1 i2 : Nat) : Prop := decode code pc = .ok (.aload_n 1, 1) ∧ (∀ j, j < n → lD (pc + 1 + 6 * j) (j + 1)) ∧ decode code (pc + 1 + 6 * n) = .ok (.invokevirtual i1, 3) ∧ decode code (pc + 1 + 6 * n + 3) = .ok (.aload_n 2, 1) ∧ (∀ j, j < n → lD (pc + 1 + 6 * n + 3 + 1 + 6 * j) (j + 1)) ∧ decode code (pc + 1 + 6 * n + 3 + 1 + 6 * n) = .ok (.invokevirtual i2, 3)
abbrev lT (p : Nat) : Prop := decode code p = .ok (.if_icmp .eq (1801 - (p : Int)), 3)
abbrev lTl (p : Nat) : Prop := decode code p = .ok (.lcmp, 1) ∧ decode code (p + 1) = .ok (.ifCond .eq (1801 - ((p + 1 : Nat) : Int)), 3)
theorem l_case (hX : lC X Y A bs bo Ls xs) (hi : i + 6 ≤ Ls) (hS : lS Y bo f T U w h) (hnc : nc ≤ 601024) (hns : ns ≤ 7293034) {n i1 i2 m1 m2 d1 d2 : Nat} {y1 y2 : MethodName} {c1 c2 : ByteArray} {r1 r2 : Option FieldType} {F G : Um → (Int32 → Um → Prop) → Prop} (hg : pG F G U T w) (hn : n ≤ 5)
    (f1 : pc_V RL i1 y1 c1 m1 r1 n) (f2 : pc_V RL i2 y2 c2 m2 r2 n) (q1 : (vwCl[9]?).map (fun q => q.1) = some y1.cls) (q2 : (vwCl[10]?).map (fun q => q.1) = some y2.cls)
    (t1 : ∀ (U : Um) (post : Int32 → Um → Prop), F U post → um X.2.1 Y d1 y1 c1 m1 r1 (.ref (Y.2.1 0) :: lA xs i n) U (pq_i post)) (t2 : ∀ (U : Um) (post : Int32 → Um → Prop), G U post → um X.2.1 Y d2 y2 c2 m2 r2 (.ref (Y.2.1 55) :: lA xs i n) U (pq_i post)) (hd1 : d1 ≤ 2047) (hd2 : d2 ≤ 2047)
    (e : lE pc n i1 i2) (e6 : lT (pc + 1 + 6 * n + 3 + 1 + 6 * n + 3)) (kk : lK X Y A Q bs bo i nc ns) : pw X Y.1 A Q pc (lL Y bs bo i) [] h sz nc ns := by
  obtain ⟨hC, hR, hl, hw, hz, hx, hb, hL⟩ := id hX
  obtain ⟨hU, hI, hA, hM⟩ := hS
  obtain ⟨e0, e1, e2, e3, e4, e5⟩ := e
  obtain ⟨R, T2, w2, hI2, hF, hG⟩ := hg
  refine pr_aload_n hC e0 rfl ?_
  refine l_lds hX hi rfl rfl n hn e1 ?_
  refine vc_Vi hC hR (lA xs i n) (rest := []) f1 e2 hU (t1 U _ hF) rfl (by decide) q1 rfl (lA_len n) (Nat.zero_le 8) (by omega) hnc hns (fun v1 U1 h1 hp1 hU1 => ?_)
  obtain ⟨rfl, hA1, hk1⟩ := hp1
  refine pr_aload_n hC e3 rfl ?_
  refine l_lds hX hi rfl rfl n hn e4 ?_
  refine vc_Vi hC hR (lA xs i n) (rest := [.int v1]) f2 e5 hU1 (t2 U1 _ (hG U1 hk1 (M_55 hk1 hM))) rfl (by decide) q2 rfl (lA_len n) (Nat.le_of_ble_eq_true rfl) (by omega) hnc hns (fun v2 U2 h2 hp2 hU2 => ?_)
  obtain ⟨rfl, hM2, hf2⟩ := hp2
  refine pr_icmp_eq hC 1801 e6 (by omega) (fun _ => ?_) (fun c => absurd rfl c)
  exact pr_widen (Nat.le_add_right _ _) (Nat.le_add_right _ _) (kk T2 U2 w2 f h2 sz ⟨hU2, hI2, CA_fM hI2.1.1 hf2 hA1, hM2⟩)
theorem lg_refl (x : Int64) : lg_cmp x x = 0 := by
  rw [← jL_of x, lg_jL (r64_of x) (r64_of x), if_neg (by omega), if_pos rfl]
theorem l_caseL (hX : lC X Y A bs bo Ls xs) (hi : i + 6 ≤ Ls) (hS : lS Y bo f T U w h) (hnc : nc ≤ 601024) (hns : ns ≤ 7293034) {n i1 i2 m1 m2 d1 d2 : Nat} {y1 y2 : MethodName} {c1 c2 : ByteArray} {r1 r2 : Option FieldType} {F G : Um → (Int64 → Um → Prop) → Prop} (hg : pGl F G U T w) (hn : n ≤ 5)
    (f1 : pc_V RL i1 y1 c1 m1 r1 n) (f2 : pc_V RL i2 y2 c2 m2 r2 n) (q1 : (vwCl[9]?).map (fun q => q.1) = some y1.cls) (q2 : (vwCl[10]?).map (fun q => q.1) = some y2.cls)
    (t1 : ∀ (U : Um) (post : Int64 → Um → Prop), F U post → um X.2.1 Y d1 y1 c1 m1 r1 (.ref (Y.2.1 0) :: lA xs i n) U (pq_l post)) (t2 : ∀ (U : Um) (post : Int64 → Um → Prop), G U post → um X.2.1 Y d2 y2 c2 m2 r2 (.ref (Y.2.1 55) :: lA xs i n) U (pq_l post)) (hd1 : d1 ≤ 2047) (hd2 : d2 ≤ 2047)
    (e : lE pc n i1 i2) (e6 : lTl (pc + 1 + 6 * n + 3 + 1 + 6 * n + 3)) (kk : lK X Y A Q bs bo i nc ns) : pw X Y.1 A Q pc (lL Y bs bo i) [] h sz nc ns := by
  obtain ⟨hC, hR, hl, hw, hz, hx, hb, hL⟩ := id hX
  obtain ⟨hU, hI, hA, hM⟩ := hS
  obtain ⟨e0, e1, e2, e3, e4, e5⟩ := e
  obtain ⟨R, T2, w2, hI2, hF, hG⟩ := hg
  refine pr_aload_n hC e0 rfl ?_
  refine l_lds hX hi rfl rfl n hn e1 ?_
  refine vc_Vl hC hR (lA xs i n) (rest := []) f1 e2 hU (t1 U _ hF) rfl (by decide) q1 rfl (lA_len n) (Nat.zero_le 8) (by omega) hnc hns (fun v1 U1 h1 hp1 hU1 => ?_)
  obtain ⟨rfl, hA1, hk1⟩ := hp1
  refine pr_aload_n hC e3 rfl ?_
  refine l_lds hX hi rfl rfl n hn e4 ?_
  refine vc_Vl hC hR (lA xs i n) (rest := [.long v1]) f2 e5 hU1 (t2 U1 _ (hG U1 hk1 (M_55 hk1 hM))) rfl (by decide) q2 rfl (lA_len n) (Nat.le_of_ble_eq_true rfl) (by omega) hnc hns (fun v2 U2 h2 hp2 hU2 => ?_)
  obtain ⟨rfl, hM2, hf2⟩ := hp2
  refine pr_lcmp hC e6.1 ?_
  rw [lg_refl]
  refine pr_if_eq hC 1801 e6.2 (by omega) (fun _ => ?_) (fun c => absurd rfl c)
  exact pr_widen (Nat.le_add_right _ _) (Nat.le_add_right _ _) (kk T2 U2 w2 f h2 sz ⟨hU2, hI2, CA_fM hI2.1.1 hf2 hA1, hM2⟩)
end LAW
