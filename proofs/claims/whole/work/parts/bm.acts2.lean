/-! the class: acts, more -/
theorem eT_ply {T : Tm} {d : Int} {z : Int32} (hI : I1 T) (h2 : I2 T) (hf : If T) : eT T (plyS T d z 48).2.2 := fun k hk => funext fun j => (ply_i hI h2 hf (by decide : (0 : Int) ≤ 48) (by decide)).2.2.2.2 k j (by omega)
theorem x_X11_play {U : Um} {T : Tm} {w : Nat} (hA : CA U T w) (hI : I1 T) (h2 : I2 T) (hf : If T) {z : Int32} {post : Int32 → Um → Prop} (h : ∀ V : Um, CA V (playT T z) w → fX P55 U V → post (jI (playS T z)) V) : w_X11_play 0 z U post := by
  have hC := hA.1
  have tb := I_t h2
  unfold playT playS at h
  refine ⟨o_4 hC, br_lt (T 35 0) 7 (c_t hC (r_04 hC)) rfl ⟨by omega, by omega⟩ ⟨by omega, by omega⟩ (fun c => ⟨o_4 hC, x_kept hA hI (r_04 hC) (fun V aV fV => ⟨o_4 aV.1, ?_⟩)⟩) (fun c => ?_)⟩
  · have ek : keepT T 35 0 = T 35 0 := keep_nf (by decide)
    have i1 := I1_keep hI
    have i2 := I2_keep h2
    have i3 := If_keep hf
    refine x_playDay aV.1 i1 i2 i3 (by rw [ek]; omega) (r_04 aV.1) (fun Z cZ fZ => ?_)
    rw [ek] at cZ ⊢
    have := h Z
    rw [cif_f (by omega), cif_f (by omega)] at this
    exact this (CA_a aV fZ (fun o k => PM_Q) (eT_trans (eT_up (by decide)) (eT_ply (I1_up (by decide) i1) (I2_day i2 ⟨by omega, by omega⟩) i3)) cZ) (fX_trans fV (f55 fZ (fun o k => PM_Q)))
  · have := h U
    rw [cif_t (by omega), cif_t (by omega)] at this
    exact this hA fX_rfl
theorem eT_mark {T : Tm} {k m : Int} : eT T (markT T k m) := fun f hf => funext fun j => mark_nf (by omega)
theorem x_X11_mark {U : Um} {T : Tm} {w : Nat} (hA : CA U T w) (hI : I1 T) (h2 : I2 T) (hf : If T) {a1 a2 a3 : Int32} {g s m : Int} (e1 : a1 = jI g) (e2 : a2 = jI s) (e3 : a3 = jI m) (rg : r32 g) (rs : r32 s) (rm : r32 m) {post : Int32 → Um → Prop} (h : ∀ V : Um, CA V (mrkT T g s m) w → fX P55 U V → post (jI (mrkS T g s m)) V) : w_X11_mark 0 a1 a2 a3 U post := by
  have hn := I_n hI
  have hC := hA.1
  unfold mrkT mrkS at h
  have no : ¬ mkOk T g s m → post (-1) U := fun c => by
    have := h U
    rw [cif_f c, cif_f c] at this
    exact this hA fX_rfl
  refine ⟨o_4 hC, x_isMarkable hC hI h2 (r_04 hC) e1 e2 rg rs (fun c => br_1 ?_) (fun c => br_0 (no (fun q => c ⟨q.1, q.2.1, q.2.2.1, q.2.2.2.1⟩)))⟩
  refine br_lt m 0 e3 rfl rm ⟨by decide, by decide⟩ (fun c1 => no (fun q => by have := q.2.2.2.2; omega)) (fun c1 => br_le m 100 e3 rfl rm ⟨by decide, by decide⟩ (fun c2 => ⟨o_4 hC, ?_⟩) (fun c2 => no (fun q => by have := q.2.2.2.2; omega)))
  have ok : mkOk T g s m := ⟨c.1, c.2.1, c.2.2.1, c.2.2.2, c1, c2⟩
  refine x_kept hA hI (r_04 hC) (fun V aV fV => ?_)
  have b := seat3 hI c.1
  have ik := I_k h2 (3 * g + s) (by omega) (by omega)
  have i1 := I1_keep hI
  have i2 := I2_keep h2
  have i3 := If_keep hf
  refine x_X9_placeOf e1 e2 ⟨o_4 aV.1, x_giveMark aV.1 i1 i2 i3 (r_04 aV.1) (k := 3 * g + s) (m := m) rfl e3 (by omega) (by omega) (by rw [keep_nf (by decide)]; exact c.2.1) c1 c2 (fun Z cZ fZ => ⟨o_4 cZ, o_4 cZ, jvp (3 * g + s) rfl (by omega) (by omega) (by decide), ?_⟩)⟩
  have e30 : markT (keepT T) (3 * g + s) m 30 (3 * g + s) = T 30 (3 * g + s) := (mark_nf (by omega)).trans (keep_nf (by decide))
  have r30 : uA Z (uR Z 0 4) 2 (Int32.toNatClampNeg (jI (3 * g + s))) = jI (T 30 (3 * g + s)) := by
    rw [← e30]
    exact c_h cZ (r_04 cZ) (3 * g + s) rfl (by omega) (by omega)
  rw [r30]
  refine ⟨jvp (T 30 (3 * g + s)) rfl (by omega) (by omega) (by decide), ?_⟩
  have := h Z
  rw [cif_t ok, cif_t ok, jI_of] at this
  have iz := I1_mark (k := 3 * g + s) (m := m) i1
  have hk11 : markT (keepT T) (3 * g + s) m 11 2 = T 11 2 := (mark_nf (by decide)).trans (keep_nf (by decide))
  have r34 : uF Z (uR Z 0 4) 5 (Int32.toNatClampNeg (jI (T 30 (3 * g + s)))) = mkF (jF (T 34 (T 30 (3 * g + s)))) m := by
    rw [c_fo iz cZ (r_04 cZ) (T 30 (3 * g + s)) rfl (by omega) (by rw [hk11]; omega)]
    have e34 : markT (keepT T) (3 * g + s) m 34 (T 30 (3 * g + s)) = ((mkF (jF (T 34 (T 30 (3 * g + s)))) m).toNat : Int) := by
      unfold markT
      rw [up_nf (by decide)]
      exact up_eq
    rw [e34, jF_nat]
  rw [r34]
  exact this (CA_a aV fZ (fun o k => PM_Q) eT_mark cZ) (fX_trans fV (f55 fZ (fun o k => PM_Q)))
theorem eT_al {T T2 : Tm} (h : al30 T T2) : eT T T2 := fun k hk => funext fun j => h k j (by omega)
theorem x_X11_fill {U : Um} {T : Tm} {w : Nat} (hA : CA U T w) (hI : I1 T) (h2 : I2 T) (hz : I0 T) {post : Int32 → Um → Prop} (h : ∀ V : Um, CA V (fillT T) w → fX P55 U V → post (jI (fillS T)) V) : w_X11_fill 0 U post := by
  have hC := hA.1
  refine ⟨o_5 hC, o_4 hC, ?_⟩
  rw [r_05 hC, r_04 hC]
  refine x_copy (by decide) (fun V fV v1 v2 v3 v5 => ?_)
  have cV : CC V T w := CC_x hI fV (fun o k q => by omega) hC
  have aV : CA V T w := CA_q hA fV (fun o k q => by omega) cV
  have s43 : CRo V 43 T (T 35 0) (T 30) (T 31) (T 32) (T 33) (T 34) := CRo_copy hI v1 v2 v3 v5 hC.2.2
  refine ⟨o_6 cV, x_fillAll cV hI h2 hz (r_06 cV) (fun Z T2 hT cZ iZ al fZ => ?_)⟩
  have aZ : CA Z T2 w := CA_a aV fZ (fun o k => PD_Q) (eT_al al) cZ
  have fUZ : fX P55 U Z := fX_trans (f55 fV (fun o k q => by omega)) (f55 fZ (fun o k => PD_Q))
  have lb : ((opl T 48 0).length : Int) ≤ 48 := by
    have := opl_b (T := T)
    omega
  by_cases c0 : (opl T 48 0).length = 0
  · have eT2 : T2 = T := by
      rcases hT with q | q | q
      · exact q.2
      · have : opl T 48 0 = [] := List.length_eq_zero_iff.mp c0
        rw [this] at q
        unfold srch at q
        exact (Option.some.inj q).symm
      · exact q.2
    have eS : fillS T = 0 := by unfold fillS; rw [if_pos c0]
    have eF : fillT T = T := by unfold fillT; rw [if_pos c0]
    rw [eS]
    refine br_le 0 0 rfl rfl ⟨by decide, by decide⟩ ⟨by decide, by decide⟩ (fun _ => ?_) (fun c => absurd c (by decide))
    have := h Z
    rw [eF, eS] at this
    rw [eT2] at aZ
    exact this aZ fUZ
  have sp : ∀ s : Option Tm × Int, srch (opl T 48 0) T 0 = s → (s.1 = none → fillT T = T ∧ fillS T ≤ 0 ∧ -2 ≤ fillS T) ∧ ∀ T3, s.1 = some T3 → fillT T = blk (keepT T) 30 0 48 (T3 30) ∧ fillS T = ((opl T 48 0).length : Int) := fun s hs => by
    unfold fillT fillS
    rw [if_neg c0, if_neg c0, hs]
    obtain ⟨s1, n⟩ := s
    refine ⟨fun q => ?_, fun T3 q => ?_⟩
    · have q : s1 = none := q
      subst q
      refine ⟨rfl, ?_⟩
      show (if n ≤ 20000 then (-1 : Int) else -2) ≤ 0 ∧ -2 ≤ (if n ≤ 20000 then (-1 : Int) else -2)
      split <;> omega
    · have q : s1 = some T3 := q
      subst q
      exact ⟨rfl, rfl⟩
  have sp := sp _ rfl
  rcases hT with q | q | q
  · exact absurd q.1 c0
  · obtain ⟨eF, eS⟩ := sp.2 T2 q
    have := h
    rw [eS] at this ⊢
    have l0 : 0 < ((opl T 48 0).length : Int) := by omega
    refine br_le ((opl T 48 0).length : Int) 0 rfl rfl ⟨by omega, by omega⟩ ⟨by decide, by decide⟩ (fun c => absurd c (by omega)) (fun _ => ⟨o_5 cZ, ?_⟩)
    have eal : ∀ k, k ≠ 30 → T2 k = T k := fun k hk => funext fun j => al k j hk
    have i12 : I1 T2 := I1_al al hI
    have f43 := fun k => fZ.2.2 43 k (by omega)
    have s43Z : CRo Z 43 T (T 35 0) (T 30) (T 31) (T 32) (T 33) (T 34) := CRo_x (f43 1).1 (fun k _ _ => (f43 k).2.2.1) (f43 5).2.2.2.2 s43
    have pZ : CPa Z T := CPa_x (fX_rfl (P := fun _ _ => False)) (fun o k q => q.elim) (fun k hk => (eal k (by omega)).symm) (eal 36 (by decide)).symm (eal 37 (by decide)).symm (eal 38 (by decide)).symm aZ.2.2.1
    refine x_keep cZ.1 hI pZ rfl (r_05 cZ) (Or.inr rfl) s43Z (fun V fV2 pV => ?_)
    have eF0 : ∀ k, k ≠ 30 → k ≠ 36 ∧ k ≠ 37 ∧ k ≠ 38 → fillT T k = T2 k := fun k hk hk2 => by
      rw [eF, eal k hk]
      funext j
      rw [blk_nf hk]
      exact keep_nf hk2
    have i1F : I1 (fillT T) := I1_c (fun k j hk => by rw [eF0 k (by omega) (by omega)]) i12
    have cV2 : CC V T2 w := CC_x i12 fV2 (fun o k q => by omega) cZ
    have cF : CC V (fillT T) w := by
      refine ⟨cV2.1, CW_c (fun k hk => eF0 k (by omega) (by omega)) cV2.2.1, ?_⟩
      have r : CRo V 42 (fillT T) (T2 35 0) (T2 30) (T2 31) (T2 32) (T2 33) (T2 34) := CRo_c (fun k hk => eF0 k (by omega) (by omega)) cV2.2.2
      refine CRo_f i1F ?_ (fun k k0 k1 => ?_) (fun k k0 k1 => ?_) (fun k k0 k1 => ?_) (fun k k0 k1 => ?_) (fun k k0 k1 => ?_) r
      · rw [eF0 35 (by decide) (by decide)]
      · rw [eF, blk_in k0 (by omega), Int.sub_zero]
      · rw [eF0 31 (by decide) (by decide)]
      · rw [eF0 32 (by decide) (by decide)]
      · rw [eF0 33 (by decide) (by decide)]
      · rw [eF0 34 (by decide) (by decide)]
    have rV : CRs V (fillT T) := by
      obtain ⟨b1, b2, b3, b4⟩ := aZ.2
      refine ⟨?_, ?_, ?_, ?_⟩
      · rw [(fV2.2.2 42 9 (by omega)).2.2.1]
        exact b1
      · rw [eF]
        exact CPa_x (fX_rfl (P := fun _ _ => False)) (fun o k q => q.elim) (fun k hk => funext fun j => blk_nf (by omega)) (funext fun j => blk_nf (by decide)) (funext fun j => blk_nf (by decide)) (funext fun j => blk_nf (by decide)) pV
      · exact CTa_x fV2 (fun o k q => by omega) (eF0 16 (by decide) (by decide)) (eF0 17 (by decide) (by decide)) (eF0 18 (by decide) (by decide)) (eF0 19 (by decide) (by decide)) b3
      · exact CSa_x fV2 (fun o k q => by omega) (eF0 50 (by decide) (by decide)) (eF0 51 (by decide) (by decide)) (eF0 52 (by decide) (by decide)) (eF0 53 (by decide) (by decide)) b4
    exact this V ⟨cF, rV⟩ (fX_trans fUZ (fX_w (fun o k q => by show o < 55; omega) fV2))
  · obtain ⟨eF, eS1, eS2⟩ := sp.1 q.1
    refine br_le (fillS T) 0 rfl rfl ⟨by omega, by omega⟩ ⟨by decide, by decide⟩ (fun _ => ?_) (fun c => absurd c (by omega))
    have := h Z
    rw [eF] at this
    rw [q.2] at aZ
    exact this aZ fUZ
