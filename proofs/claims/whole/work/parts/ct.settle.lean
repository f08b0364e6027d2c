/-! the class: the week is settled, games against games -/
def GS (U : Um) (T : Tm) (x : Nat) : Prop := (x = 4 ∨ x = 5) ∧ PW U x ∧ uI U x 7 = jI (T 11 3) ∧ uI U x 8 = jI (T 11 4) ∧ (∀ g : Int, isGame T g → ∀ k : Nat, k < 8 → uI U (gO x g) k = jI (gm T g k)) ∧ ∀ a b : Int, isField T a → isField T b → uA U (x + 2) (ki 2 a.toNat) b.toNat = jI (wayS T a b)
/-- what settling games changes -/
abbrev PG (x o k : Nat) : Prop := (o = x ∧ (k = 12 ∨ k = 13 ∨ k = 14)) ∨ ((10 + 16 * (x - 4) ≤ o ∧ o < 26 + 16 * (x - 4)) ∧ (k = 8 ∨ k = 9))
theorem GS_x {P : Nat → Nat → Prop} {U V : Um} {T : Tm} {x : Nat} (hI : I1 T) (hf : fX P U V) (hP : ∀ o k, P o k → PG x o k) (h : GS U T x) : GS V T x := by
  obtain ⟨a, b, c, d, e, f⟩ := h
  have hn := I_n hI
  have k := fun o j (q : ¬ PG x o j) => hf.2.2 o j (fun z => q (hP o j z))
  refine ⟨a, ?_, ?_, ?_, fun g hg j hj => ?_, fun p q hp hq => ?_⟩
  · unfold PW at b ⊢
    simp only [hf.1, hf.2.1]
    exact b
  · rw [(k x 7 (by omega)).1]; exact c
  · rw [(k x 8 (by omega)).1]; exact d
  · rw [(k (gO x g) j (by have := gO_c a hg.1 (show g < 16 by have := hg.2; omega); omega)).1]; exact e g hg j hj
  · rw [(k (x + 2) _ (by omega)).2.2.1]; exact f p q hp hq
theorem GS_g {U : Um} {T : Tm} {x : Nat} (hI : I1 T) (h : GS U T x) {g : Int} (hg : isGame T g) {E : Int32} (he : E = jI g) : vp_in E 16 ∧ uAR U x 6 (Int32.toNatClampNeg E) = gO x g ∧ oc (gO x g) = 1 := by
  have hn := I_n hI
  obtain ⟨g0, g1⟩ := hg
  refine ⟨jvp g he g0 (by omega) (by decide), ?_, oc_g h.1 (by omega)⟩
  rw [he, jI_nat g0 (by omega), h.2.1.2.2 g.toNat (by omega)]
  rfl
theorem orb_0 {B : Int32} : B ||| 0 = B := by
  rw [← Int32.toBitVec_inj, Int32.toBitVec_or]
  exact BitVec.or_zero
theorem x_compare {U : Um} {T : Tm} {x : Nat} (hI : I1 T) (hG : GS U T x) {g h : Int} (hg : isGame T g) (hh : isGame T h) {o1 o2 : Nat} (eo1 : o1 = gO x g) (eo2 : o2 = gO x h) {a2 a3 : Int32} (e2 : a2 = (1 : Int32) <<< (jI h &&& 31)) (e3 : a3 = jI (if wayS T (gm T g 2) (gm T h 2) = -1 then -1 else wayS T (gm T g 2) (gm T h 2) + T 11 4)) {post : Um → Prop} (hp : ∀ (V : Um) (x8 x9 : Int32), V = sI (sI U (gO x g) 8 (uI U (gO x g) 8 ||| x8)) (gO x g) 9 (uI U (gO x g) 9 ||| x9) → (atOnce T g h → x8 = a2) → (¬ atOnce T g h → x8 = 0) → (nearS T g h → x9 = a2) → (¬ nearS T g h → x9 = 0) → post V) : w_X2_compare o1 o2 a2 a3 U post := by
  rw [eo1, eo2]
  have fg := I_g hI g hg.1 hg.2
  have fh := I_g hI h hh.1 hh.2
  have hn := I_n hI
  unfold gOk at fg fh
  have w := I_wS hI (gm T g 2) (gm T h 2) (by omega) (by omega) (by omega) (by omega)
  have g4 := hG.2.2.2.2.1 g hg 4 (by decide)
  have g5 := hG.2.2.2.2.1 g hg 5 (by decide)
  have h4 := hG.2.2.2.2.1 h hh 4 (by decide)
  have h5 := hG.2.2.2.2.1 h hh 5 (by decide)
  have eg := endS_e T g
  have eh := endS_e T h
  have eng : uI U (gO x g) 4 + uI U (gO x g) 5 = jI (endS T g) := by rw [eg]; exact jadd g4 g5
  have enh : uI U (gO x h) 4 + uI U (gO x h) 5 = jI (endS T h) := by rw [eh]; exact jadd h4 h5
  have fin : ∀ (x4 x7 : Int32), (atOnce T g h → x4 = 1) → (¬ atOnce T g h → x4 = 0) → x7 = jI (betw T g h) → ∀ xs : Int32, xs = (if x4 = 0 then 0 else a2) → ∀ U10 : Um, U10 = sI U (gO x g) 8 (uI U (gO x g) 8 ||| xs) → (a3 = (-1) → ∀ U11 : Um, U11 = sI U10 (gO x g) 9 (uI U10 (gO x g) 9 ||| a2) → post U11) ∧ (¬ a3 = (-1) → (a3 ≤ x7 → ∀ U12 : Um, U12 = sI U10 (gO x g) 9 (uI U10 (gO x g) 9 ||| 0) → post U12) ∧ (¬ a3 ≤ x7 → ∀ U13 : Um, U13 = sI U10 (gO x g) 9 (uI U10 (gO x g) 9 ||| a2) → post U13)) := by
    intro x4 x7 c1 c0 e7 xs hxs U10 e10
    have s1 : atOnce T g h → xs = a2 := fun q => by rw [hxs, c1 q, if_neg (by decide)]
    have s0 : ¬ atOnce T g h → xs = 0 := fun q => by rw [hxs, c0 q, if_pos rfl]
    have u9 : uI U10 (gO x g) 9 = uI U (gO x g) 9 := by rw [e10, uI_sI, if_neg (by omega)]
    rw [u9]
    have bb : betw T g h = if gm T g 4 < gm T h 4 then gm T h 4 - endS T g else gm T g 4 - endS T h := rfl
    have bl : -2000 ≤ betw T g h ∧ betw T g h ≤ 2000 := by
      rw [bb]
      split <;> omega
    have ap : -1 ≤ (if wayS T (gm T g 2) (gm T h 2) = -1 then -1 else wayS T (gm T g 2) (gm T h 2) + T 11 4) ∧ (if wayS T (gm T g 2) (gm T h 2) = -1 then -1 else wayS T (gm T g 2) (gm T h 2) + T 11 4) ≤ 30000 := by
      split <;> omega
    refine br_eq _ (-1) e3 rfl ⟨by omega, by omega⟩ ⟨by decide, by decide⟩ (fun q U11 e11 => ?_) (fun q => br_le _ (betw T g h) e3 e7 ⟨by omega, by omega⟩ ⟨by omega, by omega⟩ (fun q2 U12 e12 => ?_) (fun q2 U13 e13 => ?_))
    · refine hp U11 xs a2 (by rw [e11, e10]) s1 s0 (fun _ => rfl) (fun z => absurd (Or.inl ?_) z)
      split at q
      · assumption
      · omega
    · refine hp U12 xs 0 (by rw [e12, e10]) s1 s0 (fun z => ?_) (fun _ => rfl)
      have z : wayS T (gm T g 2) (gm T h 2) = -1 ∨ betw T g h < wayS T (gm T g 2) (gm T h 2) + T 11 4 := z
      split at q2 <;> omega
    · refine hp U13 xs a2 (by rw [e13, e10]) s1 s0 (fun _ => rfl) (fun z => absurd ?_ z)
      show wayS T (gm T g 2) (gm T h 2) = -1 ∨ betw T g h < wayS T (gm T g 2) (gm T h 2) + T 11 4
      split at q2 <;> omega
  have bb : betw T g h = if gm T g 4 < gm T h 4 then gm T h 4 - endS T g else gm T g 4 - endS T h := rfl
  unfold w_X2_compare w_X2_ends
  intro K3 hK3
  have third : ∀ x4 : Int32, (atOnce T g h → x4 = 1) → (¬ atOnce T g h → x4 = 0) → K3 x4 U := fun x4 c1 c0 => hK3 x4 U (fun K6 hK6 => by
    refine br_le (gm T h 4) (gm T g 4) h4 g4 ⟨by omega, by omega⟩ ⟨by omega, by omega⟩ (fun q => hK6 _ U ?_) (fun q => hK6 _ U ?_)
    · exact fin x4 _ c1 c0 (by rw [enh, g4, bb, if_neg (by omega)]; exact jsub rfl rfl)
    · exact fin x4 _ c1 c0 (by rw [eng, h4, bb, if_pos q]; exact jsub rfl rfl))
  refine br_le (endS T h) (gm T g 4) enh g4 ⟨by omega, by omega⟩ ⟨by omega, by omega⟩ (fun q => third 0 (fun z => ?_) (fun _ => rfl)) (fun q => br_le (endS T g) (gm T h 4) eng h4 ⟨by omega, by omega⟩ ⟨by omega, by omega⟩ (fun q2 => third 0 (fun z => ?_) (fun _ => rfl)) (fun q2 => third 1 (fun _ => rfl) (fun z => absurd ?_ z)))
  · have z : gm T g 4 < endS T h ∧ gm T h 4 < endS T g := z
    omega
  · have z : gm T g 4 < endS T h ∧ gm T h 4 < endS T g := z
    omega
  · exact (show gm T g 4 < endS T h ∧ gm T h 4 < endS T g from ⟨q, q2⟩)
