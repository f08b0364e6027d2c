/-! the class: shelf, lay, look, by what they mean -/
theorem oc_s {i : Nat} (h : i < 3) : oc (52 + i) = 6 := by
  rcases (show i = 0 ∨ i = 1 ∨ i = 2 by omega) with rfl | rfl | rfl <;> rfl
theorem r_10 {U : Um} {T : Tm} {w : Nat} (hC : CC U T w) {s : Int} (s0 : 0 ≤ s) (s1 : s < 3) : uAR U 0 10 (Int32.toNatClampNeg (jI s)) = 52 + s.toNat := by
  rw [jI_nat s0 (by omega)]
  exact hC.1.2.2.2.1 s.toNat (by omega)
theorem x_xshelf {U : Um} {T : Tm} {w : Nat} (hA : CA U T w) (hI : I1 T) (h5 : I5 T) {s v n : Int} (rs : r32 s) (rv : r32 v) (rn : r32 n) {post : Int32 → Um → Prop} {px : String → Um → Prop} (h : ∀ V : Um, shTh s v n = 0 → CA V (shT T s v n) w → fX P55 U V → post (jI n) V) (hN : shTh s v n = 1 → px xN U) (hX : shTh s v n = 2 → px xI U) : w_xshelf (jI s) (jI v) (jI n) U post px := by
  unfold w_xshelf
  refine x_isShelf rfl rs (fun c => ⟨fun q => absurd q (by decide), fun _ => ?_⟩) (fun c => ⟨fun _ => hN (if_neg (by omega)), fun q => absurd rfl q⟩)
  have no : ¬ ((0 ≤ v ∧ v ≤ 1) ∧ 0 ≤ n ∧ n ≤ 20) → px xI U := fun q => hX ((if_pos ⟨c.1, by omega⟩).trans (if_neg q))
  refine br_lt v 0 rfl rfl rv ⟨by decide, by decide⟩ (fun c2 => no (by omega)) (fun c2 => br_lt 1 v rfl rfl ⟨by decide, by decide⟩ rv (fun c3 => no (by omega)) (fun c3 => br_lt n 0 rfl rfl rn ⟨by decide, by decide⟩ (fun c4 => no (by omega)) (fun c4 => br_le n 20 rfl rfl rn ⟨by decide, by decide⟩ (fun c5 => ?_) (fun c5 => no (by omega)))))
  have z : shTh s v n = 0 := (if_pos ⟨c.1, by omega⟩).trans (if_pos (by omega))
  have r := r_10 hA.1 c.1 c.2
  exact ⟨jvp s rfl c.1 c.2 (by decide), oc_of r (oc_s (by omega)), x_make hA hI h5 r rfl rfl z (fun V cV fV => h V z cV fV)⟩
theorem x_xlook {U : Um} {T : Tm} {w : Nat} (hA : CA U T w) (h5 : I5 T) (h53 : I53 T) {s p : Int} (rs : r32 s) (rp : r32 p) {post : Int64 → Um → Prop} {px : String → Um → Prop} (h : isPl T s p → post (jL (lookS T s p)) U) (hN : ¬ isPl T s p → px xN U) : w_xlook (jI s) (jI p) U post px := by
  unfold w_xlook
  refine x_isShelf rfl rs (fun c => ⟨fun q => absurd q (by decide), fun _ => ?_⟩) (fun c => ⟨fun _ => hN (fun q => c (by omega)), fun q => absurd rfl q⟩)
  have r := r_10 hA.1 c.1 c.2
  have b := (h5 s c.1 c.2).1
  refine ⟨jvp s rfl c.1 c.2 (by decide), oc_of r (oc_s (by omega)), x_isPlace hA.2.2.2.2 h5 r c.1 c.2 rfl rp (fun q => ⟨fun z => absurd z (by decide), fun _ => ⟨oc_of r (oc_s (by omega)), jvp p rfl q.2.1 (by omega) (by decide), ?_⟩⟩) (fun q => ⟨fun _ => hN q, fun z => absurd rfl z⟩)⟩
  have hp := h q
  have e := (hA.2.2.2.2 s c.1 c.2).2.2 p q.2.1 q.2.2
  have k := h53 (20 * s + p) (by omega) (by omega)
  unfold lookS at hp
  rw [cif_t q] at hp
  rw [r, jI_nat q.2.1 (by omega), e, jI_L]
  · exact hp
  · by_cases z : T 53 (20 * s + p) = 0
    · rw [if_pos z]
      exact ⟨by decide, by decide⟩
    · rw [if_neg z]
      exact k.2 z
theorem CA_lay {U V : Um} {T : Tm} {w : Nat} (hA : CA U T w) (hI : I1 T) (h5 : I5 T) {s p : Int} (hp : isPl T s p) {L : Int} (eV : V = sA U (52 + s.toNat) 0 (va_up (uA U (52 + s.toNat) 0) p.toNat (jI L))) : CA V (up (up T 52 (20 * s + p) L) 53 (20 * s + p) 1) w ∧ fX P55 U V := by
  have fV : fX (PSh s) U V := by rw [eV]; exact fX_sA rfl
  have b5 := (h5 s hp.1.1 (by omega)).1
  obtain ⟨b1, b2, b3, b4⟩ := hA.2
  have e : ∀ k : Nat, k ≠ 52 → k ≠ 53 → up (up T 52 (20 * s + p) L) 53 (20 * s + p) 1 k = T k := fun k k0 k1 => by rw [up_f k1, up_f k0]
  refine ⟨⟨CC_T (fun k hk => e k (by omega) (by omega)) (CC_x hI fV (fun o k q => by have : o = 52 + s.toNat := q; omega) hA.1), ?_, CPa_x fV (fun o k q => by have : o = 52 + s.toNat := q; omega) (fun k hk => e k (by omega) (by omega)) (e 36 (by decide) (by decide)) (e 37 (by decide) (by decide)) (e 38 (by decide) (by decide)) b2, CTa_x fV (fun o k q => by have : o = 52 + s.toNat := q; omega) (e 16 (by decide) (by decide)) (e 17 (by decide) (by decide)) (e 18 (by decide) (by decide)) (e 19 (by decide) (by decide)) b3, fun t t0 t1 => ?_⟩, fX_w (fun o k q => by have : o = 52 + s.toNat := q; show o < 55; omega) fV⟩
  · rw [(fV.2.2 42 9 (fun q => by have : 42 = 52 + s.toNat := q; omega)).2.2.1]
    exact b1
  · rw [e 50 (by decide) (by decide), e 51 (by decide) (by decide)]
    have b := b4 t t0 t1
    have bt5 := (h5 t t0 t1).1
    by_cases c : t = s
    · refine ⟨by rw [eV]; exact b.1, by rw [eV]; exact b.2.1, fun q q0 q1 => ?_⟩
      have bq := b.2.2 q q0 q1
      rw [up_at, up_nf (f := 52) (k := 53) (by decide), up_at, up_nf (f := 53) (k := 52) (by decide), eV, c, uA_sA, if_pos ⟨rfl, rfl⟩]
      rw [c] at bq
      unfold va_up
      by_cases z : q = p
      · rw [if_pos (by rw [z]), if_pos (show 20 * s + q = 20 * s + p by omega), if_pos (show 20 * s + q = 20 * s + p by omega), if_neg (by decide)]
      · rw [if_neg (by omega), if_neg (show ¬ 20 * s + q = 20 * s + p by omega), if_neg (show ¬ 20 * s + q = 20 * s + p by omega)]
        exact bq
    · have f := fun k => fV.2.2 (52 + t.toNat) k (fun q => by have : 52 + t.toNat = 52 + s.toNat := q; omega)
      rw [(f 1).1, (f 2).1, (f 0).2.2.1]
      refine ⟨b.1, b.2.1, fun q q0 q1 => ?_⟩
      rw [up_ne (show ¬ (53 = 53 ∧ 20 * t + q = 20 * s + p) by omega), up_nf (f := 53) (k := 52) (by decide), up_nf (f := 52) (k := 53) (by decide), up_ne (show ¬ (52 = 52 ∧ 20 * t + q = 20 * s + p) by omega)]
      exact b.2.2 q q0 q1
theorem x_xlay {U : Um} {T : Tm} {w : Nat} (hA : CA U T w) (hI : I1 T) (h2 : I2 T) (hf : If T) (h5 : I5 T) {s p o n : Int} (rs : r32 s) (rp : r32 p) (ro : r32 o) (hn : n = 0 ∨ n = 1) {post : Int32 → Um → Prop} {px : String → Um → Prop} (h : ∀ V : Um, layA T s p o → CA V (layT T s p o n) w → fX P55 U V → post (jI (layS T s p o n)) V) (hN : ¬ layA T s p o → px xN U) : w_xlay (jI s) (jI p) (jI o) (jI n) U post px := by
  unfold w_xlay
  have hC := hA.1
  have nn := I_n hI
  refine x_isShelf rfl rs (fun c => ⟨fun q => absurd q (by decide), fun _ => ?_⟩) (fun c => ⟨fun _ => hN (fun q => c (by have := q.1.1; omega)), fun q => absurd rfl q⟩)
  have r := r_10 hC c.1 c.2
  have b := h5 s c.1 c.2
  refine ⟨jvp s rfl c.1 c.2 (by decide), oc_of r (oc_s (by omega)), x_isPlace hA.2.2.2.2 h5 r c.1 c.2 rfl rp (fun q => ⟨fun z => absurd z (by decide), fun _ => ⟨o_2 hC, ?_⟩⟩) (fun q => ⟨fun _ => hN (fun z => q z.1), fun z => absurd rfl z⟩)⟩
  refine x_X9_isNamed hC hI h2 (eo := r_02 hC) (k := 2) rfl rfl (by decide) ro (fun q2 => ⟨fun z => absurd z (by decide), fun _ => ⟨oc_of r (oc_s (by omega)), ?_⟩⟩) (fun q2 => ⟨fun _ => hN (fun z => q2 z.2), fun z => absurd rfl z⟩)
  have la : layA T s p o := ⟨q, q2⟩
  have pv : vp_in (jI p) 20 := jvp p rfl q.2.1 (by omega) (by decide)
  have sv := (hA.2.2.2.2 s c.1 c.2).2.1
  rw [r, jI_nat q.2.1 (by omega)]
  refine br_eq (T 51 s) n sv rfl ⟨by omega, by omega⟩ ⟨by omega, by omega⟩ (fun q3 => ⟨pv, ?_⟩) (fun q3 => ?_)
  · have yes : layA T s p o ∧ (T 51 s = 1 ↔ n ≠ 0) := ⟨la, by omega⟩
    have hh := fun V => h V la
    unfold layT layS at hh
    rw [cif_t yes, cif_t yes] at hh
    refine br_eq n 0 rfl rfl ⟨by omega, by omega⟩ ⟨by decide, by decide⟩ (fun q4 => ⟨o_4 hC, ?_⟩) (fun q4 => ⟨o_2 hC, jvp o rfl q2.1 (by omega) (by decide), fun U6 e6 => ?_⟩)
    · refine x_bits hC hI hf (r_04 hC) rfl q2.1 q2.2 (fun U6 e6 => ?_)
      have z := CA_lay hA hI h5 q e6
      have e : layV T o n = ((jF (T 34 o)).toNat : Int) := by
        unfold layV
        rw [cif_t q4]
      rw [e] at hh
      exact hh U6 z.1 z.2
    · have e : layV T o n = T 5 o := by
        unfold layV
        rw [cif_f q4]
      have nm : uA U (uR U 0 2) (ki 0 (Int32.toNatClampNeg 2)) (Int32.toNatClampNeg (jI o)) = jI (T 5 o) := c_nm hC (r_02 hC) 2 o rfl rfl (by decide) (by decide) q2.1 q2.2 (by omega)
      rw [nm] at e6
      have z := CA_lay hA hI h5 q e6
      rw [e] at hh
      exact hh U6 z.1 z.2
  · have no : ¬ (layA T s p o ∧ (T 51 s = 1 ↔ n ≠ 0)) := fun z => q3 (by have := z.2; omega)
    have hh := h U la
    unfold layT layS at hh
    rw [cif_f no, cif_f no] at hh
    exact hh hA fX_rfl
