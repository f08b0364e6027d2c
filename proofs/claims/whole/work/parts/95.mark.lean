/-! marks -/
def wr (i : Int) : Int := (jI i).toInt
theorem jI_wr {i : Int} : jI (wr i) = jI i := jI_of _
theorem wr_r {i : Int} : r32 (wr i) := r32_of _
def markT (T : Tm) (k m : Int) : Tm := up (up (up T 31 k m) 34 (T 30 k) ((mkF (jF (T 34 (T 30 k))) m).toNat : Int)) 33 (T 30 k) (wr (T 33 (T 30 k) + 1))
def If (T : Tm) : Prop := ∀ o, isOne T o → fOk (jF (T 34 o))
theorem mark_nf {T : Tm} {k m : Int} {f : Nat} {j : Int} (h : f ≠ 31 ∧ f ≠ 33 ∧ f ≠ 34) : markT T k m f j = T f j := by
  unfold markT
  rw [up_nf h.2.1, up_nf h.2.2, up_nf h.1]
theorem I1_mark {T : Tm} {k m : Int} (h : I1 T) : I1 (markT T k m) := I1_c (fun f j hf => mark_nf (by omega)) h
theorem I2_mark {T : Tm} {k m : Int} (h : I2 T) (hm : -1 ≤ m ∧ m ≤ 100) : I2 (markT T k m) := by
  have e : ∀ (f : Nat) (j : Int), f ≠ 31 ∧ f ≠ 33 ∧ f ≠ 34 → markT T k m f j = T f j := fun f j => mark_nf
  have eg : ∀ g k2, gm (markT T k m) g k2 = gm T g k2 := fun g k2 => e 10 _ (by omega)
  obtain ⟨a, b, c, d, t⟩ := h
  unfold I2 isSeat isGame isOne
  simp only [eg, e 11 _ (by omega), e 30 _ (by omega), e 32 _ (by omega), e 35 _ (by omega)]
  refine ⟨a, b, fun j j0 j1 => ?_, fun o ho => ⟨(d o ho).1, ?_⟩, t⟩
  · have := c j j0 j1
    unfold markT
    rw [up_nf (by decide), up_nf (by decide), up_at]
    split <;> omega
  · have := (d o ho).2
    unfold markT
    rw [up_at]
    split
    · exact wr_r
    · rw [up_nf (by decide), up_nf (by decide)]
      exact this
theorem jF_nat {x : UInt32} : jF (x.toNat : Int) = x := (jF_of rfl).symm
theorem If_mark {T : Tm} {k m : Int} (h : If T) (h0 : isOne T (T 30 k)) (m0 : 0 ≤ m) (m1 : m ≤ 100) : If (markT T k m) := by
  intro o ho
  have ho2 : isOne T o := by
    have e : markT T k m 11 2 = T 11 2 := mark_nf (by omega)
    exact ⟨ho.1, by have := ho.2; rw [e] at this; exact this⟩
  unfold markT
  rw [up_nf (by decide), up_at]
  split
  · rw [jF_nat]
    exact (fo_mark (h _ h0) m0 m1).2.2.2
  · rw [up_nf (by decide)]
    exact h o ho2
theorem s_X12_marks {U : Um} {T : Tm} (hM : M U T) (hI : I1 T) (h2 : I2 T) (hf : If T) {a1 a2 : Int32} {k m : Int} (e1 : a1 = jI k) (e2 : a2 = jI m) (k0 : 0 ≤ k) (k1 : k < 48) (hk : T 30 k ≠ -1) (m0 : 0 ≤ m) (m1 : m ≤ 100) {post : Um → Prop} (h : ∀ V : Um, M V (markT T k m) → fM U V → post V) : w_X12_marks 55 a1 a2 U post := by
  unfold w_X12_marks
  subst e1; subst e2
  have hn := I_n hI
  have sk := seat_k h2 k0 k1 hk
  have fo := fo_mark (hf (T 30 k) ⟨sk.2.1, sk.2.2⟩) m0 m1
  refine ⟨jvp k rfl k0 (by omega) (by decide), ?_⟩
  refine al_i (T 30 k) (rdA (M_A hM 30 48) k rfl k0 (by omega)) ?_
  refine ⟨jvp k rfl k0 (by omega) (by decide), ?_⟩
  intro V1 hV1
  have n1 : M V1 (up T 31 k m) := by rw [hV1]; exact M_sA hM k m rfl rfl k0 (by omega)
  refine ⟨jvp (T 30 k) rfl (by omega) (by omega) (by decide), ?_⟩
  have rf : uF V1 55 34 (Int32.toNatClampNeg (jI (T 30 k))) = jF (T 34 (T 30 k)) := rdF (M_F n1 34 10) (T 30 k) rfl (by omega) (by omega)
  rw [rf]
  refine ⟨fo.1, ?_⟩
  intro x4 hx4
  refine ⟨fo.2.1, ?_⟩
  intro x5 hx5
  have hmk : FP.fadd x4 x5 = mkF (jF (T 34 (T 30 k))) m := by rw [hx4, hx5]; rfl
  rw [hmk]
  refine ⟨fo.2.2.1, jvp (T 30 k) rfl (by omega) (by omega) (by decide), ?_⟩
  intro V2 hV2
  have n2 : M V2 (up (up T 31 k m) 34 (T 30 k) ((mkF (jF (T 34 (T 30 k))) m).toNat : Int)) := by rw [hV2]; exact M_sF n1 (T 30 k) _ rfl (jF_of rfl) (by omega) (by omega)
  refine ⟨jvp (T 30 k) rfl (by omega) (by omega) (by decide), jvp (T 30 k) rfl (by omega) (by omega) (by decide), ?_⟩
  intro V3 hV3
  have r33 : uA V2 55 33 (Int32.toNatClampNeg (jI (T 30 k))) = jI (T 33 (T 30 k)) := rdA (M_A n2 33 10) (T 30 k) rfl (by omega) (by omega)
  have n3 : M V3 (markT T k m) := by
    rw [hV3]
    exact M_sA n2 (T 30 k) (wr (T 33 (T 30 k) + 1)) rfl (by rw [r33, jI_wr]; exact jadd rfl rfl) (by omega) (by omega)
  exact h V3 n3 (by rw [hV3, hV2, hV1]; exact fM_trans (fM_trans fM_sA fM_sF) fM_sA)
/-- a lot -/
def lotE (z : Int32) : Int32 := (z.toUInt32 >>> ((Int32.toUInt32 16) &&& Int32.toUInt32 31)).toInt32
theorem lotE_b (z : Int32) : 0 ≤ (lotE z).toInt ∧ (lotE z).toInt < 65536 := by
  have e : (lotE z).toBitVec.toNat = z.toBitVec.toNat / 65536 := by
    show (z.toBitVec >>> (16#32 : BitVec 32)).toNat = _
    rw [BitVec.ushiftRight_eq', BitVec.toNat_ushiftRight]
    show z.toBitVec.toNat >>> 16 = _
    rw [Nat.shiftRight_eq_div_pow]
  have hz := z.toBitVec.isLt
  have h2 : (lotE z).toInt = ((lotE z).toBitVec.toNat : Int) := by
    show (lotE z).toBitVec.toInt = _
    rw [BitVec.toInt_eq_toNat_of_lt]
    omega
  rw [h2, e]
  omega
def lotS (z : Int32) : Int := (lotE z).toInt % 101
theorem lotS_b (z : Int32) : 0 ≤ lotS z ∧ lotS z ≤ 100 := by
  have := lotE_b z
  unfold lotS
  omega
theorem lot_e (z : Int32) : lotE z - lotE z / 101 * 101 = jI (lotS z) := by
  have := lotE_b z
  exact jrem (jI_of _).symm rfl ⟨by omega, by omega⟩ ⟨by omega, by omega⟩ (by omega) (by omega)
def nxtZ (z : Int32) : Int32 := z * 1103515245 + 12345
abbrev Py : Type := Int32 × Int × Tm
abbrev onD (T : Tm) (d k : Int) : Prop := isSeat T (k / 3) (k % 3) ∧ T 30 k ≠ -1 ∧ gm T (k / 3) 3 = d
noncomputable def plyN (T : Tm) (d : Int) (z : Int32) : Nat → Py
  | 0 => (z, 0, T)
  | n + 1 => cif (onD T d n) (nxtZ (plyN T d z n).1, (plyN T d z n).2.1 + 1, markT (plyN T d z n).2.2 n (lotS (nxtZ (plyN T d z n).1))) (plyN T d z n)
noncomputable def plyS (T : Tm) (d : Int) (z : Int32) (k : Int) : Py := plyN T d z k.toNat
theorem ply_s {T : Tm} {d k : Int} {z : Int32} (h : 0 ≤ k) : plyS T d z (k + 1) = cif (onD T d k) (nxtZ (plyS T d z k).1, (plyS T d z k).2.1 + 1, markT (plyS T d z k).2.2 k (lotS (nxtZ (plyS T d z k).1))) (plyS T d z k) := by
  unfold plyS
  rw [Int.toNat_add h (by decide)]
  show cif (onD T d (k.toNat : Int)) (nxtZ (plyN T d z k.toNat).1, (plyN T d z k.toNat).2.1 + 1, markT (plyN T d z k.toNat).2.2 (k.toNat : Int) (lotS (nxtZ (plyN T d z k.toNat).1))) (plyN T d z k.toNat) = _
  rw [Int.toNat_of_nonneg h]
/-- what playing leaves -/
theorem ply_i {T : Tm} {d : Int} {z : Int32} (hI : I1 T) (h2 : I2 T) (hf : If T) {k : Int} (h : 0 ≤ k) : k ≤ 48 → (I1 (plyS T d z k).2.2 ∧ I2 (plyS T d z k).2.2 ∧ If (plyS T d z k).2.2 ∧ (0 ≤ (plyS T d z k).2.1 ∧ (plyS T d z k).2.1 ≤ k) ∧ ∀ (f : Nat) (j : Int), f ≠ 31 ∧ f ≠ 33 ∧ f ≠ 34 → (plyS T d z k).2.2 f j = T f j) := by
  refine cnt_ind (P := fun k => k ≤ 48 → (I1 (plyS T d z k).2.2 ∧ I2 (plyS T d z k).2.2 ∧ If (plyS T d z k).2.2 ∧ (0 ≤ (plyS T d z k).2.1 ∧ (plyS T d z k).2.1 ≤ k) ∧ ∀ (f : Nat) (j : Int), f ≠ 31 ∧ f ≠ 33 ∧ f ≠ 34 → (plyS T d z k).2.2 f j = T f j)) k h (fun _ => ⟨hI, h2, hf, ⟨Int.le_refl 0, Int.le_refl 0⟩, fun _ _ _ => rfl⟩) (fun k k0 k1 ih hk => ?_)
  obtain ⟨a, b, c, e, f⟩ := ih (by omega)
  have hl := lotS_b (nxtZ (plyS T d z k).1)
  show I1 (plyS T d z (k + 1)).2.2 ∧ I2 (plyS T d z (k + 1)).2.2 ∧ If (plyS T d z (k + 1)).2.2 ∧ (0 ≤ (plyS T d z (k + 1)).2.1 ∧ (plyS T d z (k + 1)).2.1 ≤ k + 1) ∧ ∀ (f : Nat) (j : Int), f ≠ 31 ∧ f ≠ 33 ∧ f ≠ 34 → (plyS T d z (k + 1)).2.2 f j = T f j
  rw [ply_s k0]
  by_cases q : onD T d k
  · rw [cif_t q]
    have sk := seat_k h2 k0 (by omega) q.2.1
    have o1 : isOne (plyS T d z k).2.2 ((plyS T d z k).2.2 30 k) := by
      rw [f 30 k (by omega)]
      show 0 ≤ T 30 k ∧ T 30 k < (plyS T d z k).2.2 11 2
      rw [f 11 2 (by omega)]
      exact ⟨sk.2.1, sk.2.2⟩
    exact ⟨I1_mark a, I2_mark b ⟨by omega, hl.2⟩, If_mark c o1 hl.1 hl.2, by show 0 ≤ (plyS T d z k).2.1 + 1 ∧ (plyS T d z k).2.1 + 1 ≤ k + 1; omega, fun g j hg => (mark_nf hg).trans (f g j hg)⟩
  · rw [cif_f q]
    exact ⟨a, b, c, by omega, f⟩
