/-! multianewarray: rows of rows of ints -/
/-- the state when i of the n inner rows (k ints each) are made -/
def mu_S (T : State) (cA cI : ClassId) (n k : Nat) : Nat → State
  | 0 => T.pushCell (arrV cA n (fun _ => .null))
  | i + 1 => ((mu_S T cA cI n k i).pushCell (arrV cI k (fun _ => .int 0))).setCell T.heap.size (arrV cA n (fun j => if j < i + 1 then .ref (T.heap.size + 1 + j) else .null))
theorem mu_step (c : ClassId) (n i b : Nat) : (arrV c n (fun j => if j < i then .ref (b + j) else .null)).setSlot i (.ref (b + i)) = arrV c n (fun j => if j < i + 1 then .ref (b + j) else .null) := by
  rw [arrV_store]
  congr 1
  funext j
  simp only [updV]
  by_cases h : j = i
  · subst h; rw [if_pos rfl, if_pos (Nat.lt_succ_self _)]
  · rw [if_neg h]
    by_cases h2 : j < i
    · rw [if_pos h2, if_pos (by omega)]
    · rw [if_neg h2, if_neg (by omega)]
theorem mu_F (T : State) (cA cI : ClassId) (n k : Nat) : ∀ i, (mu_S T cA cI n k i).heap.size = T.heap.size + 1 + i ∧ (mu_S T cA cI n k i).heap[T.heap.size]? = some (arrV cA n (fun j => if j < i then .ref (T.heap.size + 1 + j) else .null)) ∧ (mu_S T cA cI n k i).vm = T.vm ∧ (mu_S T cA cI n k i).slotsUsed = T.slotsUsed + n + i * k ∧ (∀ q, q < T.heap.size → (mu_S T cA cI n k i).heap[q]? = T.heap[q]?) ∧ ∀ j, j < i → (mu_S T cA cI n k i).heap[T.heap.size + 1 + j]? = some (arrV cI k (fun _ => .int 0))
  | 0 => by
    refine ⟨by simp [mu_S, State.pushCell], ?_, rfl, by simp [mu_S, arrV], fun q hq => ?_, fun j hj => absurd hj (Nat.not_lt_zero _)⟩
    · show (T.heap.push _)[T.heap.size]? = _
      rw [Array.getElem?_push_size]
      rfl
    · show (T.heap.push _)[q]? = _
      rw [Array.getElem?_push, if_neg (Nat.ne_of_lt hq)]
  | i + 1 => by
    obtain ⟨a, b, d, u, o, r⟩ := mu_F T cA cI n k i
    have hp : ∀ q, q < T.heap.size + 1 + i → ((mu_S T cA cI n k i).pushCell (arrV cI k (fun _ => .int 0))).heap[q]? = (mu_S T cA cI n k i).heap[q]? := fun q hq => by
      show ((mu_S T cA cI n k i).heap.push _)[q]? = _
      rw [Array.getElem?_push, if_neg (by rw [a]; omega)]
    have hs : ∀ q, q ≠ T.heap.size → (mu_S T cA cI n k (i + 1)).heap[q]? = ((mu_S T cA cI n k i).pushCell (arrV cI k (fun _ => .int 0))).heap[q]? := fun q hq => State.heap_setCell_other (Ne.symm hq)
    refine ⟨?_, State.heap_setCell_self ((hp _ (by omega)).trans b), by simp [mu_S, d], ?_, fun q hq => ?_, fun j hj => ?_⟩
    · show ((((mu_S T cA cI n k i).heap.push _)).setIfInBounds _ _).size = _
      rw [Array.size_setIfInBounds, Array.size_push, a]
      omega
    · simp [mu_S, u, arrV, Nat.succ_mul]
      omega
    · rw [hs q (by omega), hp q (by omega)]
      exact o q hq
    · rw [hs _ (by omega)]
      by_cases hj2 : j < i
      · rw [hp _ (by omega)]
        exact r j hj2
      · rw [show j = i by omega, ← a]
        show ((mu_S T cA cI n k i).heap.push _)[(mu_S T cA cI n k i).heap.size]? = _
        rw [Array.getElem?_push_size]
theorem mu_top (T : State) (f : JFrame) (cA cI : ClassId) (n k : Nat) : ∀ i, mu_S (T.setTop f) cA cI n k i = (mu_S T cA cI n k i).setTop f
  | 0 => rfl
  | i + 1 => by simp only [mu_S, mu_top T f cA cI n k i, State.heap_setTop, State.pushCell_setTop, State.setCell_setTop]
section MUL
variable {p : Program} {l : Launch} {e : Env} {R : Room} {s : State} {m : MethodId} {args : Array Value} {below : List Frame} {meth : Method} {c : Code} {T : State} {locs : List Loc} {cells slots : Nat}
theorem mu_X (X : Stand p l e R s m args below meth c T locs cells slots) (cA cI : ClassId) (n k : Nat) : ∀ i, Stand p l e R s m args below meth c (mu_S T cA cI n k i) (locs ++ (List.range i).map fun j => ⟨T.heap.size, j⟩) (cells + 1 + i) (slots + n + i * k)
  | 0 => by
    have h := X.pushed (arrV cA n (fun _ => .null))
    rw [arrV_size] at h
    simpa [mu_S] using h
  | i + 1 => by
    obtain ⟨a, b, d, u, o, r⟩ := mu_F T cA cI n k i
    have hcell : ((mu_S T cA cI n k i).pushCell (arrV cI k (fun _ => .int 0))).heap[T.heap.size]? = some (arrV cA n (fun j => if j < i then .ref (T.heap.size + 1 + j) else .null)) := by
      show ((mu_S T cA cI n k i).heap.push _)[T.heap.size]? = _
      rw [Array.getElem?_push, if_neg (by rw [a]; omega)]
      exact b
    have h := ((mu_X X cA cI n k i).pushed (arrV cI k (fun _ => .int 0))).stored hcell i (.ref (T.heap.size + 1 + i))
    rw [mu_step, arrV_size] at h
    rw [List.range_succ, List.map_append, ← List.append_assoc, show slots + n + (i + 1) * k = slots + n + i * k + k by rw [Nat.succ_mul]; omega]
    exact h
end MUL
section MUW
variable {E : CtlPost} {e : Env} {d : Bool} {acts : List Action} {s : State}
theorem mu_make {cA cI cc : ClassId} {kA kI : Class} {n k : Int32} (hA : s.vm.classes[cA]? = some kA) (hkA : kA.kind = .array cI (.array .int)) (hI : s.vm.classes[cI]? = some kI) (hkI : kI.kind = .array cc .int) (hn : ¬ n < 0) (hk : ¬ k < 0)
    (h1 : ¬ n.toNatClampNeg > e.platform.arrayLengthLimit) (h2 : ¬ n.toNatClampNeg * 4 > e.platform.maxHeapBytes) (h3 : ¬ k.toNatClampNeg > e.platform.arrayLengthLimit) (h4 : ¬ k.toNatClampNeg * 4 > e.platform.maxHeapBytes)
    (hc : s.heap.size + 1 + n.toNatClampNeg ≤ e.platform.maxCells) (hs : s.slotsUsed + n.toNatClampNeg + n.toNatClampNeg * k.toNatClampNeg ≤ e.platform.maxSlots) {Q : Addr → Pre} (hq : ∀ d' acts', Q s.heap.size d' acts' (mu_S s cA cI n.toNatClampNeg k.toNatClampNeg n.toNatClampNeg)) : wp (Op.multianewarray.make cA [n, k]) Q E e d acts s := by
  have hfind : ([k].find? (· < 0)) = none := by simp [hk]
  rw [Op.multianewarray.make]
  simp only [wp_bind', W.ite, hn, if_false, wp_pure', W.theClass, hA, hkA, Option.some.injEq, exists_eq_left']
  refine W.newArray_of hA hkA h1 h2 (by omega) (by have := Nat.zero_le (n.toNatClampNeg * k.toNatClampNeg); omega) rfl (fun acts1 => ?_)
  simp only [hfind]
  rw [ite_self, wp_bind', Std.Legacy.Range.forIn_eq_forIn_range']
  rw [show ([:n.toNatClampNeg] : Std.Legacy.Range).size = n.toNatClampNeg by simp [Std.Legacy.Range.size]]
  show wp (forIn (List.range' 0 n.toNatClampNeg 1) PUnit.unit _) _ E e d acts1 _
  refine wp_forIn_inv (fun rest t => ∃ i, i ≤ n.toNatClampNeg ∧ rest = List.range' i (n.toNatClampNeg - i) ∧ t = mu_S s cA cI n.toNatClampNeg k.toNatClampNeg i) _ _ ⟨0, Nat.zero_le _, rfl, by show _ = s.pushCell _; rw [← arrV_new]⟩ ?_ ?_
  · rintro x rest t d' acts' Q' ⟨i, hi, hl, rfl⟩ hnext
    have hlt : i < n.toNatClampNeg := by
      rcases Nat.lt_or_ge i n.toNatClampNeg with h | h
      · exact h
      · rw [show n.toNatClampNeg - i = 0 by omega] at hl; simp at hl
    rw [show n.toNatClampNeg - i = (n.toNatClampNeg - (i + 1)) + 1 by omega, List.range'_succ] at hl
    obtain ⟨rfl, rfl⟩ := List.cons.inj hl
    obtain ⟨a, b, dv, u, o, r⟩ := mu_F s cA cI n.toNatClampNeg k.toNatClampNeg x
    have hmul : x * k.toNatClampNeg + k.toNatClampNeg ≤ n.toNatClampNeg * k.toNatClampNeg := by
      have := Nat.mul_le_mul_right k.toNatClampNeg (show x + 1 ≤ n.toNatClampNeg from hlt)
      rw [Nat.succ_mul] at this; exact this
    rw [wp_bind', Op.multianewarray.make]
    simp only [wp_bind', W.ite, hk, if_false, wp_pure', W.theClass, dv, hI, hkI, Option.some.injEq, exists_eq_left']
    refine W.newArray_of (by rw [dv]; exact hI) hkI h3 h4 (by rw [a]; omega) (by rw [u]; omega) rfl (fun acts2 => ?_)
    have e1 : ({ cls := cI, slots := Array.replicate k.toNatClampNeg (defaultValue FieldType.int) } : Cell) = arrV cI k.toNatClampNeg (fun _ => .int 0) := arrV_new cI k.toNatClampNeg (.int 0)
    rw [e1]
    simp only [wp_bind', W.writeLoc, wp_pure']
    refine ⟨arrV cA n.toNatClampNeg (fun j => if j < x then .ref (s.heap.size + 1 + j) else .null), ?_, ?_, by rw [arrV_size]; exact hlt, ?_, hnext _ _ _ ⟨x + 1, hlt, rfl, ?_⟩⟩
    · show ((mu_S s cA cI n.toNatClampNeg k.toNatClampNeg x).heap.push _)[s.heap.size]? = _
      rw [Array.getElem?_push, if_neg (by rw [a]; omega)]
      exact b
    · intro q; cases q
    · simp [State.fitsSlot, State.slotType?, arrV, dv, hA, hkA, fits]
    · rw [a, mu_step]; rfl
  · rintro t d' acts' ⟨i, hi, hl, rfl⟩
    have hiN : i = n.toNatClampNeg := by
      rcases Nat.lt_or_ge i n.toNatClampNeg with h | h
      · rw [show n.toNatClampNeg - i = (n.toNatClampNeg - (i + 1)) + 1 by omega, List.range'_succ] at hl; cases hl
      · omega
    subst hiN
    simp only [wp_pure']
    exact hq _ _
end MUW
