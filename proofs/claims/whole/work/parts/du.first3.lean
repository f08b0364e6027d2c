/-! the first memory: both sides, by what they mean -/
def T0 : Tm := fun f i => if f = 11 then (if i = 4 ∨ i = 11 then 10 else if i = 5 ∨ i = 12 then 3 else 0) else if f = 30 ∨ f = 31 ∨ f = 35 ∨ f = 19 then -1 else 0
theorem T0_11 {s : Int} (h : s ≠ 4 ∧ s ≠ 11 ∧ s ≠ 5 ∧ s ≠ 12) : T0 11 s = 0 := by
  unfold T0
  rw [if_pos rfl, if_neg (by omega), if_neg (by omega)]
theorem T0_g (g : Int) : ¬ isGame T0 g := fun h => by
  have : g < 0 := h.2
  have := h.1
  omega
theorem T0_o (o : Int) : ¬ isOne T0 o := fun h => by
  have : o < 0 := h.2
  have := h.1
  omega
theorem T0_f (a : Int) : ¬ isField T0 a := fun h => by
  have : a < 0 := h.2
  have := h.1
  omega
theorem rw_at {i : Int} (h0 : 0 ≤ i) (h1 : i < 48) : rw_ (0 : Int32) (-1) 48 i.toNat = jI (-1) := by
  unfold rw_
  rw [if_pos (by omega)]
  rfl
theorem M_0 : M U0 T0 := by
  refine ⟨fun q hq i i0 i1 => ?_, fun q hq i i0 i1 => ?_, fun q hq i i0 i1 => ?_, fun k hk => ?_⟩
  · simp only [mLA, List.mem_cons, List.not_mem_nil, or_false] at hq
    rcases hq with rfl | rfl | rfl | rfl | rfl | rfl | rfl | rfl | rfl | rfl | rfl | rfl | rfl | rfl | rfl | rfl | rfl | rfl
    · rfl
    · rfl
    · rfl
    · rfl
    · rfl
    · rfl
    · have i1 : i < 7 := i1
      rcases (show i = 0 ∨ i = 1 ∨ i = 2 ∨ i = 3 ∨ i = 4 ∨ i = 5 ∨ i = 6 by omega) with rfl | rfl | rfl | rfl | rfl | rfl | rfl <;> rfl
    · rfl
    · rfl
    · rfl
    · exact rw_at i0 i1
    · exact rw_at i0 i1
    · rfl
    · rfl
    · rfl
    · rfl
    · rfl
    · rfl
  · simp only [mLJ, List.mem_cons, List.not_mem_nil, or_false] at hq
    rcases hq with rfl | rfl | rfl | rfl <;> rfl
  · simp only [mLF, List.mem_cons, List.not_mem_nil, or_false] at hq
    rcases hq with rfl | rfl <;> rfl
  · simp only [mLS, List.mem_cons, List.not_mem_nil, or_false] at hk
    rcases hk with rfl | rfl | rfl | rfl | rfl | rfl <;> rfl
theorem IA_0 : IA T0 := by
  refine ⟨⟨⟨⟨⟨by decide, by decide⟩, ⟨by decide, by decide⟩, ⟨by decide, by decide⟩, ⟨by decide, by decide⟩, ⟨by decide, by decide⟩, ⟨by decide, by decide⟩, by decide, by decide⟩, fun g hg => absurd hg (T0_g g), fun i _ _ => ⟨⟨(by decide : (-1 : Int) ≤ 0), (by decide : (0 : Int) ≤ 20000)⟩, (by decide : (0 : Int) ≤ 0), (by decide : (0 : Int) ≤ 240)⟩, fun o ho => absurd ho (T0_o o), ⟨fun i i0 i1 => absurd ⟨i0, i1⟩ (T0_f i), fun i i0 i1 => ?_, fun i i0 i1 => absurd ⟨i0, i1⟩ (T0_o i)⟩, ⟨by decide, by decide⟩, fun k k0 k1 => ?_, fun _ => rfl, fun q => absurd q (by decide)⟩, fun a ha => absurd ha (T0_f a), ⟨⟨by decide, by decide⟩, fun i _ _ => ⟨(by decide : (0 : Int) ≤ 0), (by decide : (0 : Int) ≤ 255)⟩⟩, fun s _ _ => ⟨⟨(by decide : (0 : Int) ≤ 0), (by decide : (0 : Int) ≤ 20)⟩, (by decide : (0 : Int) ≤ 0), (by decide : (0 : Int) ≤ 1)⟩, fun k _ _ => ⟨⟨(by decide : (0 : Int) ≤ 0), (by decide : (0 : Int) ≤ 1)⟩, fun q => absurd rfl q⟩⟩, ⟨fun k _ _ => Or.inl rfl, fun g s t _ _ _ => Or.inl rfl, fun k _ _ => ⟨(by decide : (-1 : Int) ≤ -1), (by decide : (-1 : Int) ≤ 100)⟩, fun o ho => absurd ho (T0_o o), by decide, by decide⟩, fun o ho => absurd ho (T0_o o), ⟨by decide, by decide⟩, fun i i0 i1 => ?_⟩
  · have : i < 0 := i1
    omega
  · have : k < 0 := k1
    omega
  · have : i < 0 := i1
    omega
theorem bt_00 {h : Int} : ¬ bt (0 : Int32) h := by
  unfold bt
  simp
theorem CA_0 : CA U0 T0 4 := by
  refine ⟨⟨⟨Or.inl rfl, ⟨rfl, rfl, rfl, rfl, rfl, rfl, rfl⟩, fun i _ => rfl, fun i _ => rfl, rfl, rfl, rfl, ⟨rfl, rfl, fun i _ => ?_⟩, rfl, rfl, fun i _ => ?_⟩, ⟨⟨fun k k0 k1 => ?_, rfl, rfl, rfl⟩, fun s i s0 s1 i0 i1 => ?_, fun o ho => absurd ho (T0_o o), fun g hg => absurd hg (T0_g g), ⟨rfl, fun a c ha => absurd ha (T0_f a)⟩, ⟨rfl, fun k k0 k1 => ?_⟩, fun i i0 i1 => ?_, fun d _ _ h _ _ => ⟨fun q => absurd q bt_00, fun q => absurd q.1 (T0_g h)⟩, fun f _ _ h _ _ => ⟨fun q => absurd q bt_00, fun q => absurd q.1 (T0_g h)⟩⟩, rfl, fun k k0 k1 => ⟨rw_at k0 k1, rw_at k0 k1⟩, fun o ho => absurd ho (T0_o o)⟩, fun o _ _ => rfl, ⟨0, ⟨by decide, by decide⟩, rfl, rfl, ⟨by decide, by decide⟩, fun i i0 i1 => ?_⟩, ⟨⟨rfl, fun i i0 i1 => ?_⟩, rfl, rfl⟩, fun s s0 s1 => ?_⟩
  · show 10 + i = 10 + 16 * (4 - 4) + i
    omega
  · show 26 + i = 10 + 16 * (5 - 4) + i
    omega
  · rw [T0_11 (by omega)]
    rfl
  · rw [T0_11 (by omega)] at i1
    omega
  · have : k < 0 := k1
    omega
  · have : i < 0 := i1
    omega
  · have : i < 0 := i1
    omega
  · have : i < 0 := i1
    omega
  · rcases (show s = 0 ∨ s = 1 ∨ s = 2 by omega) with rfl | rfl | rfl
    · exact ⟨rfl, rfl, fun p p0 p1 => by have : p < 0 := p1; omega⟩
    · exact ⟨rfl, rfl, fun p p0 p1 => by have : p < 0 := p1; omega⟩
    · exact ⟨rfl, rfl, fun p p0 p1 => by have : p < 0 := p1; omega⟩
