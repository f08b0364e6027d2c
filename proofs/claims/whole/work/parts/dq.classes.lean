/-! what holds at the start: the classes, the rows' classes -/
section STK
variable {A0 : Array Value} {s : State}
def taO (s : State) (c : ClassId) (ty : FieldType) : Prop := ∃ (k : Class) (comp : ClassId), s.vm.classes[c]? = some k ∧ k.kind = .array comp ty ∧ s.vm.findClass ("[" ++ ty.toString) = some c
theorem taO_a {c : ClassId} {ty : FieldType} (h : taO s c ty) : ArrOfT s c ty := by
  obtain ⟨k, comp, h1, h2, -⟩ := h
  exact fun n z => ⟨fun k h => (by cases h), k, h1, comp, h2⟩
theorem ta_cls {ty : FieldType} (h : (Cond.arrayClass ty).before A0 s = true) : ∃ c, taO s c ty := by
  obtain ⟨c, k, comp, h1, h2, h3⟩ := Cond.arrayClass_spec h
  exact ⟨c, k, comp, h2, h3, h1⟩
theorem ta_obj {C : String} (h : (Cond.arrayOver (.object C)).before A0 s = true) : ∃ c, taO s c (.object C) ∧ va_RA s c (.object C) := by
  obtain ⟨comp, c, k, h1, -, h2, h3, h4⟩ := Cond.arrayOver_spec h
  exact ⟨c, ⟨k, comp, h2, h3, h4⟩, k, comp, h2, h3, h1, h4⟩
theorem st_K (hts : ∀ w ∈ lw_tbl, w.before A0 s = true) : ∃ (D : va_G) (T : Nat → ClassId), va_K D vwCl (pt_tys T) s ∧ ∀ K : Nat → Nat, pe_X (D, T, K) s := by
  have ht : ∀ {w : Cond} (i : Nat), lw_tbl[i]? = some w → w.before A0 s = true := fun i h => hts _ (List.mem_of_getElem? h)
  have hg : ∀ w ∈ lw_g, w.before A0 s = true := fun w hw => hts w (List.mem_filter.mp hw).1
  have h0 : ∀ k : Nat, ∃ q : ClassId × (Nat → Nat), ∀ r : vw_C, vwCl[k]? = some r → u_Kn s r.1 r.2.1 r.2.2 q.1 q.2 := by
    intro k
    match k with
    | 0 =>
      obtain ⟨c, f, h⟩ := u_known (C := RX1) (T := TX1) (N := 7) (n := 7) hg us_X1 (ht 469 (by decide +kernel))
      exact ⟨(c, f), fun r hr => by cases hr; exact h⟩
    | 1 =>
      obtain ⟨c, f, h⟩ := u_known (C := RX2) (T := TX2) (N := 10) (n := 10) hg us_X2 (ht 222 (by decide +kernel))
      exact ⟨(c, f), fun r hr => by cases hr; exact h⟩
    | 2 =>
      obtain ⟨c, f, h⟩ := u_known (C := RX3) (T := TX3) (N := 5) (n := 5) hg us_X3 (ht 308 (by decide +kernel))
      exact ⟨(c, f), fun r hr => by cases hr; exact h⟩
    | 3 =>
      obtain ⟨c, f, h⟩ := u_known (C := RX4) (T := TX4) (N := 5) (n := 5) hg us_X4 (ht 189 (by decide +kernel))
      exact ⟨(c, f), fun r hr => by cases hr; exact h⟩
    | 4 =>
      obtain ⟨c, f, h⟩ := u_known (C := RX5) (T := TX5) (N := 3) (n := 3) hg us_X5 (ht 288 (by decide +kernel))
      exact ⟨(c, f), fun r hr => by cases hr; exact h⟩
    | 5 =>
      obtain ⟨c, f, h⟩ := u_known (C := RX6) (T := TX6) (N := 10) (n := 10) hg us_X6 (ht 415 (by decide +kernel))
      exact ⟨(c, f), fun r hr => by cases hr; exact h⟩
    | 6 =>
      obtain ⟨c, f, h⟩ := u_known (C := RX7) (T := TX7) (N := 3) (n := 3) hg us_X7 (ht 499 (by decide +kernel))
      exact ⟨(c, f), fun r hr => by cases hr; exact h⟩
    | 7 =>
      obtain ⟨c, f, h⟩ := u_known (C := RX8) (T := TX8) (N := 8) (n := 8) hg us_X8 (ht 151 (by decide +kernel))
      exact ⟨(c, f), fun r hr => by cases hr; exact h⟩
    | 8 =>
      obtain ⟨c, f, h⟩ := u_known (C := RX9) (T := TX9) (N := 15) (n := 15) hg us_X9 (ht 213 (by decide +kernel))
      exact ⟨(c, f), fun r hr => by cases hr; exact h⟩
    | 9 =>
      obtain ⟨c, f, h⟩ := u_known (C := RX11) (T := TX11) (N := 11) (n := 11) hg us_X11 (ht 143 (by decide +kernel))
      exact ⟨(c, f), fun r hr => by cases hr; exact h⟩
    | 10 =>
      obtain ⟨c, f, h⟩ := u_known (C := RX12) (T := TX12) (N := 54) (n := 54) hg us_X12 (ht 1314 (by decide +kernel))
      exact ⟨(c, f), fun r hr => by cases hr; exact h⟩
    | k + 11 => exact ⟨(0, fun _ => 0), fun r hr => absurd (show (none : Option vw_C) = some r from hr) (by simp)⟩
  obtain ⟨fd, hfd⟩ := Classical.axiomOfChoice h0
  obtain ⟨c0, i0⟩ := ta_cls (ht 286 (by decide +kernel) : (Cond.arrayClass .int).before A0 s = true)
  obtain ⟨c1, i1⟩ := ta_cls (ht 331 (by decide +kernel) : (Cond.arrayClass .long).before A0 s = true)
  obtain ⟨c2, i2⟩ := ta_cls (ht 467 (by decide +kernel) : (Cond.arrayClass .float).before A0 s = true)
  obtain ⟨c3, i3⟩ := ta_cls (ht 187 (by decide +kernel) : (Cond.arrayClass .byte).before A0 s = true)
  obtain ⟨c4, i4⟩ := ta_cls (ht 1482 (by decide +kernel) : (Cond.arrayClass .boolean).before A0 s = true)
  obtain ⟨m5, c5, k5, a1, -, a2, a3, a4⟩ := arrayOverA_spec (ht 219 (by decide +kernel) : (Cond.arrayOver (.array .int)).before A0 s = true)
  obtain ⟨c6, i6, j6⟩ := ta_obj (ht 496 (by decide +kernel) : (Cond.arrayOver (.object "WhistleRoster$Roster")).before A0 s = true)
  obtain ⟨c7, i7, j7⟩ := ta_obj (ht 498 (by decide +kernel) : (Cond.arrayOver (.object "WhistleRoster$Shelf")).before A0 s = true)
  obtain ⟨c8, i8, j8⟩ := ta_obj (ht 221 (by decide +kernel) : (Cond.arrayOver (.object "WhistleRoster$Game")).before A0 s = true)
  have i5 : taO s c5 (.array .int) := ⟨k5, m5, a2, a3, a4⟩
  refine ⟨(fun c => (fd c).1, fun c => (fd c).2), fun k => if k = 0 then c0 else if k = 1 then c1 else if k = 2 then c2 else if k = 3 then c3 else if k = 4 then c4 else if k = 5 then c5 else if k = 6 then c6 else if k = 7 then c7 else c8, ⟨fun c q hq => hfd c q hq, fun k q hk => ?_⟩, fun K => ⟨va_Nw.of (A := A0) rfl (ht 223 (by decide +kernel)), va_AO.of (ht 221 (by decide +kernel)), va_AO.of (ht 496 (by decide +kernel)), va_AO.of (ht 498 (by decide +kernel)), k5, a2, ?_⟩⟩
  · match k with
    | 0 => cases hk; exact ⟨taO_a i0, i0.choose_spec.choose_spec.2.2⟩
    | 1 => cases hk; exact ⟨taO_a i1, i1.choose_spec.choose_spec.2.2⟩
    | 2 => cases hk; exact ⟨taO_a i2, i2.choose_spec.choose_spec.2.2⟩
    | 3 => cases hk; exact ⟨taO_a i3, i3.choose_spec.choose_spec.2.2⟩
    | 4 => cases hk; exact ⟨taO_a i4, i4.choose_spec.choose_spec.2.2⟩
    | 5 => cases hk; exact ⟨taO_a i5, a4⟩
    | 6 => cases hk; exact ⟨taO_a i6, j6⟩
    | 7 => cases hk; exact ⟨taO_a i7, j7⟩
    | 8 => cases hk; exact ⟨taO_a i8, j8⟩
    | k + 9 => exact absurd (show (none : Option (ClassId × FieldType)) = some q from hk) (by simp)
  · have e : m5 = c0 := Option.some.inj (a1.symm.trans i0.choose_spec.choose_spec.2.2)
    rw [a3, e]
    rfl
end STK
