def lw_g : List Cond := lw_tbl.filter goodWord
theorem lw_in {w : Cond} (i : Nat) (h : lw_tbl[i]? = some w) (g : goodWord w = true) : w ∈ lw_g := List.mem_filter.mpr ⟨List.mem_of_getElem? h, g⟩
theorem lw_goodIn {c : Cond} {ws : List Cond} (hw : ws = c :: lw_g) (hc : c ∈ lw_g) : GoodIn lw_g ws := by
  intro w h
  subst hw
  have hm : w ∈ lw_g := by
    rcases List.mem_cons.mp h with h | h
    · rw [h]; exact hc
    · exact h
  exact ⟨hm, good_of_word (List.mem_filter.mp hm).2⟩
/-! THE JUDGEMENT pw: the kit's W over a world that is a function of addresses; the rows of the instructions over it -/
abbrev pe_H : Type := Nat → Option va_E
abbrev px_X : Type := Program × Launch × Env × Room × State × MethodId × Array Value × List Frame × Method × Code
abbrev px_D : Type := va_G × (Nat → ClassId) × (Nat → Nat)
def pe_W (D : va_G) (h : pe_H) (H : Heap) : Prop := ∀ (a : Nat) (e : va_E), h a = some e → va_at D vwCl (a, e) H
def pe_set (h : pe_H) (a : Nat) (e : va_E) : pe_H := fun b => if b = a then some e else h b
theorem pe_set_eq {h : pe_H} {a : Nat} {e : va_E} : pe_set h a e a = some e := if_pos rfl
theorem pe_set_ne {h : pe_H} {a b : Nat} {e : va_E} (hb : b ≠ a) : pe_set h a e b = h b := if_neg hb
def po (ci N : Nat) (F : Nat → Value) : va_E := .inr (ci, (List.range N).map F)
def pa_i (G : px_D) (n : Nat) (f : Nat → Int32) : va_E := .inl (G.2.1 0, n, .inl f)
def pa_l (G : px_D) (n : Nat) (f : Nat → Int64) : va_E := .inl (G.2.1 1, n, .inr (.inl f))
def pa_f (G : px_D) (n : Nat) (f : Nat → UInt32) : va_E := .inl (G.2.1 2, n, .inr (.inr (.inl f)))
def pa_b (G : px_D) (n : Nat) (f : Nat → Int32) : va_E := .inl (G.2.1 3, n, .inl f)
def pa_z (G : px_D) (n : Nat) (f : Nat → Int32) : va_E := .inl (G.2.1 4, n, .inl f)
def pa_r (G : px_D) (k n : Nat) (f : Nat → Option Nat) : va_E := .inl (G.2.1 k, n, .inr (.inr (.inr (.inr f))))
def pt_tys (T : Nat → ClassId) : List (ClassId × FieldType) := [(T 0, .int), (T 1, .long), (T 2, .float), (T 3, .byte), (T 4, .boolean), (T 5, .array .int), (T 6, .object "WhistleRoster$Roster"), (T 7, .object "WhistleRoster$Shelf"), (T 8, .object "WhistleRoster$Game")]
theorem pf_get {N k : Nat} {F : Nat → Value} (hk : k < N) : ((List.range N).map F)[k]? = some (F k) := by
  rw [List.getElem?_map, List.getElem?_range hk]; rfl
theorem pf_set {N k : Nat} {F : Nat → Value} {v : Value} (hk : k < N) : ((List.range N).map F).set k v = (List.range N).map (va_up F k v) := by
  apply List.ext_getElem?
  intro j
  by_cases hj : j = k
  · subst hj
    rw [List.getElem?_set_self (by simpa using hk), pf_get hk]
    simp [va_up]
  · rw [List.getElem?_set_ne (Ne.symm hj)]
    by_cases hN : j < N
    · rw [pf_get hN, pf_get hN]
      simp [va_up, hj]
    · rw [List.getElem?_eq_none (by simpa using hN), List.getElem?_eq_none (by simpa using hN)]
/-! what is only read: statics, constant arrays and objects, Strings -/
def wnames : List String := ["FIELD", "ROAD", "CLUB", "ONE", "AT", "NO", "OFF", "TO", "GAME", "ON", "FOR", "BY", "REST", "MOST", "FEE", "GRADE", "NEED", "SEAT", "LASTS", "DAY", "BEGINS", "WAY", "FORM"]
def wcodes : List Int32 := [3369766, 365260, 68366, 11318, 47, 393, 11103, 555, 138866, 419, 4797, 79, 358472, 267347, 4514, 4075223, 279346, 377669, 6411385, 2968, 31499758, 16819, 129532]
def wasksL : List Int32 := [0, 0, 0, 0, 0, 0, 0, 0, 0, 0, 0, 0, 0, 0, 0, -1, -2, -3, -4, -5, -6, -7, -8]
def wjumps : List Int32 := [1, 4, 2, 3, 0, 0, 5, 0, 6, 0, 0, 0, 7, 8, 9, 0, 0, 0, 0, 0, 0, 0, 0]
def wcode (j : Nat) : Int32 := wcodes.getD j 0
def wasks (j : Nat) : Int32 := wasksL.getD j 0
def stexts : List (Nat × String) := [(190, "field"), (196, "road"), (197, "club"), (199, "one"), (201, "at"), (203, "no"), (205, "off"), (206, "to"), (207, "game"), (208, "on"), (210, "for"), (212, "grade"), (213, "by"), (215, "rest"), (217, "most"), (219, "fee"), (221, "need"), (223, "seat"), (225, "lasts"), (227, "day"), (229, "begins"), (231, "way"), (233, "form")]
def xtexts : List (Nat × String) := [(318, "no such shelf"), (325, "no such sort, or not so many"), (334, "no such shelf, place or official"), (343, "no such shelf or place")]
def slens : List Nat := [5, 4, 4, 3, 2, 2, 3, 2, 4, 2, 3, 5, 2, 4, 4, 3, 4, 4, 5, 3, 6, 3, 4]
def sbyts : List (List Int32) := [[102, 105, 101, 108, 100], [114, 111, 97, 100], [99, 108, 117, 98], [111, 110, 101], [97, 116], [110, 111], [111, 102, 102], [116, 111], [103, 97, 109, 101], [111, 110], [102, 111, 114], [103, 114, 97, 100, 101], [98, 121], [114, 101, 115, 116], [109, 111, 115, 116], [102, 101, 101], [110, 101, 101, 100], [115, 101, 97, 116], [108, 97, 115, 116, 115], [100, 97, 121], [98, 101, 103, 105, 110, 115], [119, 97, 121], [102, 111, 114, 109]]
def ro_Z (K : Nat → Nat) : List (String × String × String × Value) := [("WhistleRoster$Word", "ALL", "[LWhistleRoster$Word;", .ref (K 0)), ("WhistleRoster$1", "$SwitchMap$WhistleRoster$Word", "[I", .ref (K 1)), ("WhistleRoster$Week", "LIMITS", "[I", .ref (K 2)), ("java/lang/String", "COMPACT_STRINGS", "Z", .int 1), ("jdk/internal/util/Preconditions", "SIOOBE_FORMATTER", "Ljava/util/function/BiFunction;", if K 4 = 0 then .null else .ref (K 3))] ++ (List.range 23).map (fun j => ("WhistleRoster$Word", wnames.getD j "", "LWhistleRoster$Word;", .ref (K (100 + j))))
def ro_T (K : Nat → Nat) : List (FieldType × Nat × Nat × (Nat → Value)) := [(.int, K 2, 3, fun j => .int (if j = 0 then 6 else if j = 1 then 8 else 10)), (.object "WhistleRoster$Word", K 0, 23, fun j => .ref (K (100 + j))), (.int, K 1, 23, fun j => .int (wjumps.getD j 0))] ++ (List.range 23).map (fun i => (.byte, K (300 + i), slens.getD i 0, fun j => .int ((sbyts.getD i []).getD j 0)))
def ro_F (K : Nat → Nat) : List (String × String × String × Value × Nat) := (List.range 23).map (fun j => ("WhistleRoster$Word", "code", "I", .int (wcode j), K (100 + j))) ++ ((List.range 23).map (fun j => ("WhistleRoster$Word", "asks", "I", .int (wasks j), K (100 + j))) ++ ((List.range 23).map (fun j => ("java/lang/Enum", "ordinal", "I", .int (Int32.ofNat j), K (100 + j))) ++ ((List.range 23).map (fun i => ("java/lang/String", "coder", "B", .int 0, K (200 + i))) ++ (List.range 23).map (fun i => ("java/lang/String", "value", "[B", .ref (K (300 + i)), K (200 + i))))))
def ro_O (K : Nat → Nat) : List (String × Nat) := (List.range 23).map (fun j => ("WhistleRoster$Word", K (100 + j))) ++ (List.range 23).map (fun i => ("java/lang/String", K (200 + i)))
def ro_R (K : Nat → Nat) : List (String × Nat × String × Nat) := (List.range 23).map (fun i => ("WhistleRosterModel", (stexts.getD i (0, "")).1, (stexts.getD i (0, "")).2, K (200 + i))) ++ (List.range 4).map (fun i => ("WhistleRoster", (xtexts.getD i (0, "")).1, (xtexts.getD i (0, "")).2, K (223 + i)))
def pr_RO (K : Nat → Nat) (A : Nat → Prop) (U : State) (H : Heap) : Prop :=
  (∀ q ∈ ro_Z K, va_Z q.1 q.2.1 q.2.2.1 q.2.2.2 A U H) ∧ (∀ q ∈ ro_T K, va_T q.1 q.2.1 q.2.2.1 q.2.2.2 A U H) ∧ (∀ q ∈ ro_F K, va_OF q.1 q.2.1 q.2.2.1 q.2.2.2.1 q.2.2.2.2 A U H) ∧ (∀ q ∈ ro_O K, va_O q.1 q.2 A U H) ∧ (∀ q ∈ ro_R K, vk_R q.1 q.2.1 q.2.2.1 q.2.2.2 U)
theorem pr_RO.kept {K : Nat → Nat} {A : Nat → Prop} {U : State} {H H1 : Heap} (h : pr_RO K A U H) (hq : ∀ a : Nat, a < H.size → ¬ A a → H1[a]? = H[a]?) : pr_RO K A U H1 :=
  ⟨fun q m => (h.1 q m).kept hq, fun q m => (h.2.1 q m).kept hq, fun q m => (h.2.2.1 q m).kept hq, fun q m => (h.2.2.2.1 q m).kept hq, h.2.2.2.2⟩
theorem pr_RO.warm {K : Nat → Nat} {A : Nat → Prop} {s U : State} {H : Heap} (hW : s.WarmedH U.vm) (h : pr_RO K A s H) : pr_RO K A U H :=
  ⟨fun q m => (h.1 q m).moved hW.alike, fun q m => (h.2.1 q m).moved hW.alike, fun q m => (h.2.2.1 q m).moved hW.alike, fun q m => (h.2.2.2.1 q m).moved hW.alike, fun q m => (h.2.2.2.2 q m).warm hW⟩
theorem pr_RO.same {K : Nat → Nat} {A : Nat → Prop} {u U : State} {H : Heap} (hv : U.vm = u.vm) (h : pr_RO K A u H) : pr_RO K A U H :=
  ⟨fun q m => (h.1 q m).moved (by rw [hv]; exact Vm.Alike.refl _), fun q m => (h.2.1 q m).moved (by rw [hv]; exact Vm.Alike.refl _), fun q m => (h.2.2.1 q m).moved (by rw [hv]; exact Vm.Alike.refl _), fun q m => (h.2.2.2.1 q m).moved (by rw [hv]; exact Vm.Alike.refl _), fun q m => (h.2.2.2.2 q m).same hv⟩
theorem pr_RO.narrow {K : Nat → Nat} {A B : Nat → Prop} {U : State} {H : Heap} (h : pr_RO K A U H) (hAB : ∀ q, B q → A q) : pr_RO K B U H :=
  ⟨fun q m => (h.1 q m).narrow hAB, fun q m => (h.2.1 q m).narrow hAB, fun q m => (h.2.2.1 q m).narrow hAB, fun q m => (h.2.2.2.1 q m).narrow hAB, h.2.2.2.2⟩
/-! locals, by their places -/
def pl_has (ls : Array Slot) (n : Nat) (L : List (Option Value)) : Prop := ls.size = n ∧ lv_wf ls ∧ ∀ (i : Nat) (v : Value), L[i]? = some (some v) → ls[i]? = some (.val v)
def pl_go : Nat → List (Option Value) → List (Nat × Value)
  | _, [] => []
  | i, none :: t => pl_go (i + 1) t
  | i, some v :: t => (i, v) :: pl_go (i + 1) t
theorem pl_go_mem : ∀ (L : List (Option Value)) (i j : Nat) (v : Value), (j, v) ∈ pl_go i L ↔ i ≤ j ∧ L[j - i]? = some (some v)
  | [], i, j, v => by simp [pl_go]
  | none :: t, i, j, v => by
    rw [pl_go, pl_go_mem t (i + 1) j v]
    constructor
    · rintro ⟨h1, h2⟩
      refine ⟨by omega, ?_⟩
      rw [show j - i = (j - (i + 1)) + 1 by omega, List.getElem?_cons_succ]
      exact h2
    · rintro ⟨h1, h2⟩
      by_cases hj : j = i
      · subst hj
        rw [Nat.sub_self] at h2
        cases h2
      · refine ⟨by omega, ?_⟩
        rw [show j - i = (j - (i + 1)) + 1 by omega, List.getElem?_cons_succ] at h2
        exact h2
  | some w :: t, i, j, v => by
    rw [pl_go, List.mem_cons, pl_go_mem t (i + 1) j v]
    constructor
    · rintro (h | ⟨h1, h2⟩)
      · cases h
        exact ⟨Nat.le_refl _, by rw [Nat.sub_self]; rfl⟩
      · refine ⟨by omega, ?_⟩
        rw [show j - i = (j - (i + 1)) + 1 by omega, List.getElem?_cons_succ]
        exact h2
    · rintro ⟨h1, h2⟩
      by_cases hj : j = i
      · subst hj
        rw [Nat.sub_self] at h2
        cases h2
        exact Or.inl rfl
      · refine Or.inr ⟨by omega, ?_⟩
        rw [show j - i = (j - (i + 1)) + 1 by omega, List.getElem?_cons_succ] at h2
        exact h2
theorem pl_has.to {ls : Array Slot} {n : Nat} {L : List (Option Value)} (h : pl_has ls n L) : lv_has ls n (pl_go 0 L) :=
  ⟨h.1, h.2.1, fun q hq => h.2.2 q.1 q.2 (by have := (pl_go_mem L 0 q.1 q.2).mp hq; simpa using this.2)⟩
theorem pl_has.sub {ls : Array Slot} {n : Nat} {L L' : List (Option Value)} (h : pl_has ls n L) (hs : ∀ (i : Nat) (v : Value), L'[i]? = some (some v) → L[i]? = some (some v)) : pl_has ls n L' := ⟨h.1, h.2.1, fun i v hv => h.2.2 i v (hs i v hv)⟩
/-- no value of two slots begins just ahead of a place -/
def pl_ok (L : List (Option Value)) : Nat → Bool
  | 0 => true
  | i + 1 => match L[i]? with
    | some (some v) => v.category == 1
    | _ => true
theorem pl_st1 {ls' : Array Slot} {n i : Nat} {v : Value} {L : List (Option Value)} (hok : pl_ok L i = true) (h : lv_has ls' n ((i, v) :: (pl_go 0 L).filter (fun q => !(q.1 == i) && !(q.1 + 1 == i && q.2.category == 2)))) : pl_has ls' n (L.set i (some v)) := by
  refine ⟨h.1, h.2.1, fun j w hj => ?_⟩
  by_cases e : j = i
  · subst e
    have hl : j < L.length := by
      have := (List.getElem?_eq_some_iff.mp hj).1
      simpa using this
    rw [List.getElem?_set_self hl] at hj
    obtain rfl := Option.some.inj (Option.some.inj hj)
    exact h.2.2 (j, v) List.mem_cons_self
  · rw [List.getElem?_set_ne (Ne.symm e)] at hj
    refine h.2.2 (j, w) (List.mem_cons_of_mem _ (List.mem_filter.mpr ⟨(pl_go_mem L 0 j w).mpr ⟨Nat.zero_le _, by simpa using hj⟩, ?_⟩))
    have h1 : ¬ (j + 1 = i ∧ w.category = 2) := by
      rintro ⟨rfl, h2⟩
      simp only [pl_ok, hj] at hok
      simp at hok
      omega
    have h2 : ¬ j + 1 = i ∨ ¬ w.category = 2 := by
      by_cases z : j + 1 = i
      · exact Or.inr (fun y => h1 ⟨z, y⟩)
      · exact Or.inl z
    simp [e]
    exact h2
theorem pl_st2 {ls' : Array Slot} {n i : Nat} {v : Value} {L : List (Option Value)} (hok : pl_ok L i = true) (h : lv_has ls' n ((i, v) :: (pl_go 0 L).filter (fun q => !(q.1 == i) && (!(q.1 == i + 1) && !(q.1 + 1 == i && q.2.category == 2))))) : pl_has ls' n ((L.set i (some v)).set (i + 1) none) := by
  refine ⟨h.1, h.2.1, fun j w hj => ?_⟩
  by_cases e2 : j = i + 1
  · subst e2
    by_cases hl : i + 1 < (L.set i (some v)).length
    · rw [List.getElem?_set_self hl] at hj
      cases hj
    · rw [List.getElem?_eq_none (by simpa using hl)] at hj
      cases hj
  · rw [List.getElem?_set_ne (Ne.symm e2)] at hj
    by_cases e : j = i
    · subst e
      have hl : j < L.length := by
        have := (List.getElem?_eq_some_iff.mp hj).1
        simpa using this
      rw [List.getElem?_set_self hl] at hj
      obtain rfl := Option.some.inj (Option.some.inj hj)
      exact h.2.2 (j, v) List.mem_cons_self
    · rw [List.getElem?_set_ne (Ne.symm e)] at hj
      refine h.2.2 (j, w) (List.mem_cons_of_mem _ (List.mem_filter.mpr ⟨(pl_go_mem L 0 j w).mpr ⟨Nat.zero_le _, by simpa using hj⟩, ?_⟩))
      have h1 : ¬ (j + 1 = i ∧ w.category = 2) := by
        rintro ⟨rfl, h2⟩
        simp only [pl_ok, hj] at hok
        simp at hok
        omega
      have h2 : ¬ j + 1 = i ∨ ¬ w.category = 2 := by
        by_cases z : j + 1 = i
        · exact Or.inr (fun y => h1 ⟨z, y⟩)
        · exact Or.inl z
      simp [e, e2]
      exact h2
theorem pe_W.put {D : va_G} {h : pe_H} {H H1 : Heap} {a : Nat} {e : va_E} (hW : pe_W D h H) (he : va_at D vwCl (a, e) H1) (oq : ∀ q : Nat, q ≠ a → H1[q]? = H[q]?) : pe_W D (pe_set h a e) H1 := by
  intro b e' hb
  by_cases hba : b = a
  · subst hba
    rw [pe_set_eq] at hb
    cases hb
    exact he
  · rw [pe_set_ne hba] at hb
    exact (hW b e' hb).kept (oq b hba)
theorem pe_dom {A : Nat → Prop} {h : pe_H} {a : Nat} {e : va_E} (hA : ∀ q, h q ≠ none → A q) (ha : A a) : ∀ q, pe_set h a e q ≠ none → A q := by
  intro q hq
  by_cases hqa : q = a
  · rw [hqa]; exact ha
  · rw [pe_set_ne hqa] at hq
    exact hA q hq
theorem pe_one {D : va_G} {h : pe_H} {H : Heap} {a : Nat} {e : va_E} (hW : pe_W D h H) (ha : h a = some e) : va_P D vwCl [(a, e)] H := by
  intro k q hk
  have hz : k < 1 := (List.getElem?_eq_some_iff.mp hk).1
  rw [show k = 0 by omega] at hk
  cases hk
  exact hW a e ha
/-! the judgement -/
def pw (X : px_X) (G : px_D) (A : Nat → Prop) (Q : State → Prop) (pc : Nat) (L : List (Option Value)) (st : List Value) (h : pe_H) (sz nc ns : Nat) : Prop :=
  ∀ (H : Heap) (locs : List Loc) (ls : Array Slot), H.size = sz → pe_W G.1 h H → (∀ a, h a ≠ none → A a) → va_S A X.2.2.2.2.1.heap H locs → pl_has ls X.2.2.2.2.2.2.2.2.2.maxLocals L →
    W X.1 X.2.1 X.2.2.1 X.2.2.2.1 X.2.2.2.2.1 X.2.2.2.2.2.1 X.2.2.2.2.2.2.1 X.2.2.2.2.2.2.2.1 X.2.2.2.2.2.2.2.2.1 X.2.2.2.2.2.2.2.2.2 H locs nc ns Q (F0 X.2.2.2.2.2.1 pc ls st)
/-- what holds of a method's walk: the machine, the bytes, the class, the words, the tables, the world's part, the read ones, no lock, the locals' number -/
def px_C (X : px_X) (G : px_D) (A : Nat → Prop) (cc : ByteArray) (own : String) (nL : Nat) : Prop :=
  X.1.tables.exec = Jvm.exec ∧ X.2.2.2.2.2.2.2.2.2.code = cc ∧ X.2.2.2.2.1.vm.findClass own = some X.2.2.2.2.2.1.cls ∧ (∀ w ∈ lw_g, w.before X.2.2.2.2.2.2.1 X.2.2.2.2.1 = true) ∧ va_K G.1 vwCl (pt_tys G.2.1) X.2.2.2.2.1 ∧ (∀ q, X.2.2.2.2.1.heap.size ≤ q → A q) ∧ pr_RO G.2.2 A X.2.2.2.2.1 X.2.2.2.2.1.heap ∧ X.2.2.2.2.2.2.2.2.1.locks = false ∧ X.2.2.2.2.2.2.2.2.2.maxLocals = nL
section PW
variable {X : px_X} {G : px_D} {A : Nat → Prop} {Q : State → Prop} {pc : Nat} {L : List (Option Value)} {st : List Value} {h : pe_H} {sz nc ns : Nat} {cc : ByteArray} {own : String} {nL : Nat}
theorem pr_widen {k n : Nat} (h1 : nc ≤ k) (h2 : ns ≤ n) (kk : pw X G A Q pc L st h sz k n) : pw X G A Q pc L st h sz nc ns := fun H locs ls a1 a2 a3 a4 a5 => W.widen h1 h2 (kk H locs ls a1 a2 a3 a4 a5)
theorem pr_sub {L' : List (Option Value)} (hs : ∀ (i : Nat) (v : Value), L'[i]? = some (some v) → L[i]? = some (some v)) (kk : pw X G A Q pc L' st h sz nc ns) : pw X G A Q pc L st h sz nc ns := fun H locs ls a1 a2 a3 a4 a5 => kk H locs ls a1 a2 a3 a4 (a5.sub hs)
/-- the same state, spelled otherwise -/
theorem pr_eq {pc' : Nat} {L' : List (Option Value)} {st' : List Value} {h' : pe_H} (e0 : pc' = pc) (e1 : L' = L) (e2 : st' = st) (e3 : h' = h) (kk : pw X G A Q pc' L' st' h' sz nc ns) : pw X G A Q pc L st h sz nc ns := by
  subst e0; subst e1; subst e2; subst e3; exact kk

theorem pr_iconst (hC : px_C X G A cc own nL) {n : Int} (v : Int32) (hd : decode cc pc = .ok (.iconst n, 1)) (hv : Int32.ofInt n = v) (k : pw X G A Q (pc + 1) L (.int v :: st) h sz nc ns) : pw X G A Q pc L st h sz nc ns := fun H locs ls a1 a2 a3 a4 a5 => lv_iconst hC.1 hC.2.1 hd hv (k H locs ls a1 a2 a3 a4 a5)
theorem pr_bipush (hC : px_C X G A cc own nL) {n : Int} (v : Int32) (hd : decode cc pc = .ok (.bipush n, 2)) (hv : (Int8.ofInt n).toInt32 = v) (k : pw X G A Q (pc + 2) L (.int v :: st) h sz nc ns) : pw X G A Q pc L st h sz nc ns := fun H locs ls a1 a2 a3 a4 a5 => lv_bipush hC.1 hC.2.1 hd hv (k H locs ls a1 a2 a3 a4 a5)
theorem pr_sipush (hC : px_C X G A cc own nL) {n : Int} (v : Int32) (hd : decode cc pc = .ok (.sipush n, 3)) (hv : (Int16.ofInt n).toInt32 = v) (k : pw X G A Q (pc + 3) L (.int v :: st) h sz nc ns) : pw X G A Q pc L st h sz nc ns := fun H locs ls a1 a2 a3 a4 a5 => lv_sipush hC.1 hC.2.1 hd hv (k H locs ls a1 a2 a3 a4 a5)
theorem pr_lconst (hC : px_C X G A cc own nL) {n : Fin 2} (v : Int64) (hd : decode cc pc = .ok (.lconst n, 1)) (hv : Int64.ofNat (n : Nat) = v) (k : pw X G A Q (pc + 1) L (.long v :: st) h sz nc ns) : pw X G A Q pc L st h sz nc ns := fun H locs ls a1 a2 a3 a4 a5 => lv_lconst hC.1 hC.2.1 hd hv (k H locs ls a1 a2 a3 a4 a5)
theorem pr_fconst0 (hC : px_C X G A cc own nL) (hd : decode cc pc = .ok (.fconst 0, 1)) (k : pw X G A Q (pc + 1) L (.float FP.fconst0 :: st) h sz nc ns) : pw X G A Q pc L st h sz nc ns := fun H locs ls a1 a2 a3 a4 a5 => lv_fconst0 hC.1 hC.2.1 hd (k H locs ls a1 a2 a3 a4 a5)
theorem pr_fconst1 (hC : px_C X G A cc own nL) (hd : decode cc pc = .ok (.fconst 1, 1)) (k : pw X G A Q (pc + 1) L (.float FP.fconst1 :: st) h sz nc ns) : pw X G A Q pc L st h sz nc ns := fun H locs ls a1 a2 a3 a4 a5 => lv_fconst1 hC.1 hC.2.1 hd (k H locs ls a1 a2 a3 a4 a5)
theorem pr_fconst2 (hC : px_C X G A cc own nL) (hd : decode cc pc = .ok (.fconst 2, 1)) (k : pw X G A Q (pc + 1) L (.float FP.fconst2 :: st) h sz nc ns) : pw X G A Q pc L st h sz nc ns := fun H locs ls a1 a2 a3 a4 a5 => lv_fconst2 hC.1 hC.2.1 hd (k H locs ls a1 a2 a3 a4 a5)
theorem pr_null (hC : px_C X G A cc own nL) (hd : decode cc pc = .ok (.aconst_null, 1)) (k : pw X G A Q (pc + 1) L (.null :: st) h sz nc ns) : pw X G A Q pc L st h sz nc ns := fun H locs ls a1 a2 a3 a4 a5 => lv_null hC.1 hC.2.1 hd (k H locs ls a1 a2 a3 a4 a5)
theorem pr_ldc (hC : px_C X G A cc own nL) {index : Nat} (v : Int32) (hd : decode cc pc = .ok (.ldc index, 2)) (hw : Cond.constant own index v ∈ lw_g) (k : pw X G A Q (pc + 2) L (.int v :: st) h sz nc ns) : pw X G A Q pc L st h sz nc ns := fun H locs ls a1 a2 a3 a4 a5 => lv_ldc hC.1 hC.2.1 hC.2.2.1 (hC.2.2.2.1 _ hw) hd (k H locs ls a1 a2 a3 a4 a5)
theorem pr_ldcw (hC : px_C X G A cc own nL) {index : Nat} (v : Int32) (hd : decode cc pc = .ok (.ldc_w index, 3)) (hw : Cond.constant own index v ∈ lw_g) (k : pw X G A Q (pc + 3) L (.int v :: st) h sz nc ns) : pw X G A Q pc L st h sz nc ns := fun H locs ls a1 a2 a3 a4 a5 => lv_ldcw hC.1 hC.2.1 hC.2.2.1 (hC.2.2.2.1 _ hw) hd (k H locs ls a1 a2 a3 a4 a5)
theorem pr_ldcf (hC : px_C X G A cc own nL) {index : Nat} (v : UInt32) (hd : decode cc pc = .ok (.ldc index, 2)) (hw : Cond.constantFloat own index v ∈ lw_g) (k : pw X G A Q (pc + 2) L (.float v :: st) h sz nc ns) : pw X G A Q pc L st h sz nc ns := fun H locs ls a1 a2 a3 a4 a5 => lv_ldcf hC.1 hC.2.1 hC.2.2.1 (hC.2.2.2.1 _ hw) hd (k H locs ls a1 a2 a3 a4 a5)
theorem pr_ldc2 (hC : px_C X G A cc own nL) {index : Nat} (v : Int64) (hd : decode cc pc = .ok (.ldc2_w index, 3)) (hw : Cond.constantLong own index v ∈ lw_g) (k : pw X G A Q (pc + 3) L (.long v :: st) h sz nc ns) : pw X G A Q pc L st h sz nc ns := fun H locs ls a1 a2 a3 a4 a5 => lv_ldc2 hC.1 hC.2.1 hC.2.2.1 (hC.2.2.2.1 _ hw) hd (k H locs ls a1 a2 a3 a4 a5)
theorem pr_iload_n (hC : px_C X G A cc own nL) {k0 : Fin 4} {x : Int32} (hd : decode cc pc = .ok (.iload_n k0, 1)) (hl : L[(k0 : Nat)]? = some (some (.int x))) (k : pw X G A Q (pc + 1) L (.int x :: st) h sz nc ns) : pw X G A Q pc L st h sz nc ns := fun H locs ls a1 a2 a3 a4 a5 => lv_iload_n hC.1 hC.2.1 hd rfl (a5.2.2 _ _ hl) (k H locs ls a1 a2 a3 a4 a5)
theorem pr_iload (hC : px_C X G A cc own nL) {i : Nat} {x : Int32} (hd : decode cc pc = .ok (.iload i, 2)) (hl : L[i]? = some (some (.int x))) (k : pw X G A Q (pc + 2) L (.int x :: st) h sz nc ns) : pw X G A Q pc L st h sz nc ns := fun H locs ls a1 a2 a3 a4 a5 => lv_iload hC.1 hC.2.1 hd (a5.2.2 _ _ hl) (k H locs ls a1 a2 a3 a4 a5)
theorem pr_lload_n (hC : px_C X G A cc own nL) {k0 : Fin 4} {x : Int64} (hd : decode cc pc = .ok (.lload_n k0, 1)) (hl : L[(k0 : Nat)]? = some (some (.long x))) (k : pw X G A Q (pc + 1) L (.long x :: st) h sz nc ns) : pw X G A Q pc L st h sz nc ns := fun H locs ls a1 a2 a3 a4 a5 => lv_lload_n hC.1 hC.2.1 hd rfl (a5.2.2 _ _ hl) (k H locs ls a1 a2 a3 a4 a5)
theorem pr_lload (hC : px_C X G A cc own nL) {i : Nat} {x : Int64} (hd : decode cc pc = .ok (.lload i, 2)) (hl : L[i]? = some (some (.long x))) (k : pw X G A Q (pc + 2) L (.long x :: st) h sz nc ns) : pw X G A Q pc L st h sz nc ns := fun H locs ls a1 a2 a3 a4 a5 => lv_lload hC.1 hC.2.1 hd (a5.2.2 _ _ hl) (k H locs ls a1 a2 a3 a4 a5)
theorem pr_fload_n (hC : px_C X G A cc own nL) {k0 : Fin 4} {x : UInt32} (hd : decode cc pc = .ok (.fload_n k0, 1)) (hl : L[(k0 : Nat)]? = some (some (.float x))) (k : pw X G A Q (pc + 1) L (.float x :: st) h sz nc ns) : pw X G A Q pc L st h sz nc ns := fun H locs ls a1 a2 a3 a4 a5 => lv_fload_n hC.1 hC.2.1 hd rfl (a5.2.2 _ _ hl) (k H locs ls a1 a2 a3 a4 a5)
theorem pr_fload (hC : px_C X G A cc own nL) {i : Nat} {x : UInt32} (hd : decode cc pc = .ok (.fload i, 2)) (hl : L[i]? = some (some (.float x))) (k : pw X G A Q (pc + 2) L (.float x :: st) h sz nc ns) : pw X G A Q pc L st h sz nc ns := fun H locs ls a1 a2 a3 a4 a5 => lv_fload hC.1 hC.2.1 hd (a5.2.2 _ _ hl) (k H locs ls a1 a2 a3 a4 a5)
theorem pr_aload_n (hC : px_C X G A cc own nL) {k0 : Fin 4} {x : Nat} (hd : decode cc pc = .ok (.aload_n k0, 1)) (hl : L[(k0 : Nat)]? = some (some (.ref x))) (k : pw X G A Q (pc + 1) L (.ref x :: st) h sz nc ns) : pw X G A Q pc L st h sz nc ns := fun H locs ls a1 a2 a3 a4 a5 => lv_aload_n hC.1 hC.2.1 hd rfl (a5.2.2 _ _ hl) (k H locs ls a1 a2 a3 a4 a5)
theorem pr_aload (hC : px_C X G A cc own nL) {i : Nat} {x : Nat} (hd : decode cc pc = .ok (.aload i, 2)) (hl : L[i]? = some (some (.ref x))) (k : pw X G A Q (pc + 2) L (.ref x :: st) h sz nc ns) : pw X G A Q pc L st h sz nc ns := fun H locs ls a1 a2 a3 a4 a5 => lv_aload hC.1 hC.2.1 hd (a5.2.2 _ _ hl) (k H locs ls a1 a2 a3 a4 a5)
theorem pr_aload_nN (hC : px_C X G A cc own nL) {k0 : Fin 4} (hd : decode cc pc = .ok (.aload_n k0, 1)) (hl : L[(k0 : Nat)]? = some (some .null)) (k : pw X G A Q (pc + 1) L (.null :: st) h sz nc ns) : pw X G A Q pc L st h sz nc ns := fun H locs ls a1 a2 a3 a4 a5 => lv_aload_nN hC.1 hC.2.1 hd rfl (a5.2.2 _ _ hl) (k H locs ls a1 a2 a3 a4 a5)
theorem pr_aloadN (hC : px_C X G A cc own nL) {i : Nat} (hd : decode cc pc = .ok (.aload i, 2)) (hl : L[i]? = some (some .null)) (k : pw X G A Q (pc + 2) L (.null :: st) h sz nc ns) : pw X G A Q pc L st h sz nc ns := fun H locs ls a1 a2 a3 a4 a5 => lv_aloadN hC.1 hC.2.1 hd (a5.2.2 _ _ hl) (k H locs ls a1 a2 a3 a4 a5)
theorem pr_istore_n (hC : px_C X G A cc own nL) {k0 : Fin 4} {x : Int32} (hd : decode cc pc = .ok (.istore_n k0, 1)) (hn : (k0 : Nat) < nL) (ho : pl_ok L (k0 : Nat) = true) (k : pw X G A Q (pc + 1) (L.set (k0 : Nat) (some (.int x))) st h sz nc ns) : pw X G A Q pc L (.int x :: st) h sz nc ns := fun H locs ls a1 a2 a3 a4 a5 => lv_istore_n hC.1 hC.2.1 hd rfl a5.to (by rw [hC.2.2.2.2.2.2.2.2]; exact hn) rfl (fun ls' q => k H locs ls' a1 a2 a3 a4 (pl_st1 ho q))
theorem pr_istore (hC : px_C X G A cc own nL) {i : Nat} {x : Int32} (hd : decode cc pc = .ok (.istore i, 2)) (hn : i < nL) (ho : pl_ok L i = true) (k : pw X G A Q (pc + 2) (L.set i (some (.int x))) st h sz nc ns) : pw X G A Q pc L (.int x :: st) h sz nc ns := fun H locs ls a1 a2 a3 a4 a5 => lv_istore hC.1 hC.2.1 hd a5.to (by rw [hC.2.2.2.2.2.2.2.2]; exact hn) rfl (fun ls' q => k H locs ls' a1 a2 a3 a4 (pl_st1 ho q))
theorem pr_fstore_n (hC : px_C X G A cc own nL) {k0 : Fin 4} {x : UInt32} (hd : decode cc pc = .ok (.fstore_n k0, 1)) (hn : (k0 : Nat) < nL) (ho : pl_ok L (k0 : Nat) = true) (k : pw X G A Q (pc + 1) (L.set (k0 : Nat) (some (.float x))) st h sz nc ns) : pw X G A Q pc L (.float x :: st) h sz nc ns := fun H locs ls a1 a2 a3 a4 a5 => lv_fstore_n hC.1 hC.2.1 hd rfl a5.to (by rw [hC.2.2.2.2.2.2.2.2]; exact hn) rfl (fun ls' q => k H locs ls' a1 a2 a3 a4 (pl_st1 ho q))
theorem pr_fstore (hC : px_C X G A cc own nL) {i : Nat} {x : UInt32} (hd : decode cc pc = .ok (.fstore i, 2)) (hn : i < nL) (ho : pl_ok L i = true) (k : pw X G A Q (pc + 2) (L.set i (some (.float x))) st h sz nc ns) : pw X G A Q pc L (.float x :: st) h sz nc ns := fun H locs ls a1 a2 a3 a4 a5 => lv_fstore hC.1 hC.2.1 hd a5.to (by rw [hC.2.2.2.2.2.2.2.2]; exact hn) rfl (fun ls' q => k H locs ls' a1 a2 a3 a4 (pl_st1 ho q))
theorem pr_astore_n (hC : px_C X G A cc own nL) {k0 : Fin 4} {x : Nat} (hd : decode cc pc = .ok (.astore_n k0, 1)) (hn : (k0 : Nat) < nL) (ho : pl_ok L (k0 : Nat) = true) (k : pw X G A Q (pc + 1) (L.set (k0 : Nat) (some (.ref x))) st h sz nc ns) : pw X G A Q pc L (.ref x :: st) h sz nc ns := fun H locs ls a1 a2 a3 a4 a5 => lv_astore_n hC.1 hC.2.1 hd rfl a5.to (by rw [hC.2.2.2.2.2.2.2.2]; exact hn) rfl (fun ls' q => k H locs ls' a1 a2 a3 a4 (pl_st1 ho q))
theorem pr_astore (hC : px_C X G A cc own nL) {i : Nat} {x : Nat} (hd : decode cc pc = .ok (.astore i, 2)) (hn : i < nL) (ho : pl_ok L i = true) (k : pw X G A Q (pc + 2) (L.set i (some (.ref x))) st h sz nc ns) : pw X G A Q pc L (.ref x :: st) h sz nc ns := fun H locs ls a1 a2 a3 a4 a5 => lv_astore hC.1 hC.2.1 hd a5.to (by rw [hC.2.2.2.2.2.2.2.2]; exact hn) rfl (fun ls' q => k H locs ls' a1 a2 a3 a4 (pl_st1 ho q))
theorem pr_lstore_n (hC : px_C X G A cc own nL) {k0 : Fin 4} {x : Int64} (hd : decode cc pc = .ok (.lstore_n k0, 1)) (hn : (k0 : Nat) + 1 < nL) (ho : pl_ok L (k0 : Nat) = true) (k : pw X G A Q (pc + 1) ((L.set (k0 : Nat) (some (.long x))).set ((k0 : Nat) + 1) none) st h sz nc ns) : pw X G A Q pc L (.long x :: st) h sz nc ns := fun H locs ls a1 a2 a3 a4 a5 => lv_lstore_n hC.1 hC.2.1 hd rfl a5.to (by rw [hC.2.2.2.2.2.2.2.2]; exact hn) rfl (fun ls' q => k H locs ls' a1 a2 a3 a4 (pl_st2 ho q))
theorem pr_lstore (hC : px_C X G A cc own nL) {i : Nat} {x : Int64} (hd : decode cc pc = .ok (.lstore i, 2)) (hn : i + 1 < nL) (ho : pl_ok L i = true) (k : pw X G A Q (pc + 2) ((L.set i (some (.long x))).set (i + 1) none) st h sz nc ns) : pw X G A Q pc L (.long x :: st) h sz nc ns := fun H locs ls a1 a2 a3 a4 a5 => lv_lstore hC.1 hC.2.1 hd a5.to (by rw [hC.2.2.2.2.2.2.2.2]; exact hn) rfl (fun ls' q => k H locs ls' a1 a2 a3 a4 (pl_st2 ho q))
theorem pl_find {L : List (Option Value)} {i : Nat} {v : Value} (hl : L[i]? = some (some v)) : ∃ k : Nat, (pl_go 0 L)[k]? = some (i, v) := List.getElem?_of_mem ((pl_go_mem L 0 i v).mpr ⟨Nat.zero_le _, by simpa using hl⟩)
theorem pr_iinc (hC : px_C X G A cc own nL) {i : Nat} {n : Int} {x : Int32} (hd : decode cc pc = .ok (.iinc i n, 3)) (hl : L[i]? = some (some (.int x))) (hn : i < nL) (ho : pl_ok L i = true) (k : pw X G A Q (pc + 3) (L.set i (some (.int (x + Int32.ofInt n)))) st h sz nc ns) : pw X G A Q pc L st h sz nc ns := fun H locs ls a1 a2 a3 a4 a5 => by
  obtain ⟨k0, hk0⟩ := pl_find hl
  exact lv_iinc hC.1 hC.2.1 hd a5.to hk0 rfl (by rw [hC.2.2.2.2.2.2.2.2]; exact hn) rfl (fun ls' q => k H locs ls' a1 a2 a3 a4 (pl_st1 ho q))
theorem pr_iadd (hC : px_C X G A cc own nL) {x y : Int32} (hd : decode cc pc = .ok (.iadd, 1)) (k : pw X G A Q (pc + 1) L (.int (x + y) :: st) h sz nc ns) : pw X G A Q pc L (.int y :: .int x :: st) h sz nc ns := fun H locs ls a1 a2 a3 a4 a5 => lv_iadd hC.1 hC.2.1 hd (k H locs ls a1 a2 a3 a4 a5)
theorem pr_isub (hC : px_C X G A cc own nL) {x y : Int32} (hd : decode cc pc = .ok (.isub, 1)) (k : pw X G A Q (pc + 1) L (.int (x - y) :: st) h sz nc ns) : pw X G A Q pc L (.int y :: .int x :: st) h sz nc ns := fun H locs ls a1 a2 a3 a4 a5 => lv_isub hC.1 hC.2.1 hd (k H locs ls a1 a2 a3 a4 a5)
theorem pr_imul (hC : px_C X G A cc own nL) {x y : Int32} (hd : decode cc pc = .ok (.imul, 1)) (k : pw X G A Q (pc + 1) L (.int (x * y) :: st) h sz nc ns) : pw X G A Q pc L (.int y :: .int x :: st) h sz nc ns := fun H locs ls a1 a2 a3 a4 a5 => lv_imul hC.1 hC.2.1 hd (k H locs ls a1 a2 a3 a4 a5)
theorem pr_iand (hC : px_C X G A cc own nL) {x y : Int32} (hd : decode cc pc = .ok (.iand, 1)) (k : pw X G A Q (pc + 1) L (.int (x &&& y) :: st) h sz nc ns) : pw X G A Q pc L (.int y :: .int x :: st) h sz nc ns := fun H locs ls a1 a2 a3 a4 a5 => lv_iand hC.1 hC.2.1 hd (k H locs ls a1 a2 a3 a4 a5)
theorem pr_ior (hC : px_C X G A cc own nL) {x y : Int32} (hd : decode cc pc = .ok (.ior, 1)) (k : pw X G A Q (pc + 1) L (.int (x ||| y) :: st) h sz nc ns) : pw X G A Q pc L (.int y :: .int x :: st) h sz nc ns := fun H locs ls a1 a2 a3 a4 a5 => lv_ior hC.1 hC.2.1 hd (k H locs ls a1 a2 a3 a4 a5)
theorem pr_ixor (hC : px_C X G A cc own nL) {x y : Int32} (hd : decode cc pc = .ok (.ixor, 1)) (k : pw X G A Q (pc + 1) L (.int (x ^^^ y) :: st) h sz nc ns) : pw X G A Q pc L (.int y :: .int x :: st) h sz nc ns := fun H locs ls a1 a2 a3 a4 a5 => lv_ixor hC.1 hC.2.1 hd (k H locs ls a1 a2 a3 a4 a5)
theorem pr_ishl (hC : px_C X G A cc own nL) {x y : Int32} (hd : decode cc pc = .ok (.ishl, 1)) (k : pw X G A Q (pc + 1) L (.int (x <<< (y &&& 31)) :: st) h sz nc ns) : pw X G A Q pc L (.int y :: .int x :: st) h sz nc ns := fun H locs ls a1 a2 a3 a4 a5 => lv_ishl hC.1 hC.2.1 hd (k H locs ls a1 a2 a3 a4 a5)
theorem pr_ishr (hC : px_C X G A cc own nL) {x y : Int32} (hd : decode cc pc = .ok (.ishr, 1)) (k : pw X G A Q (pc + 1) L (.int (x >>> (y &&& 31)) :: st) h sz nc ns) : pw X G A Q pc L (.int y :: .int x :: st) h sz nc ns := fun H locs ls a1 a2 a3 a4 a5 => lv_ishr hC.1 hC.2.1 hd (k H locs ls a1 a2 a3 a4 a5)
theorem pr_iushr (hC : px_C X G A cc own nL) {x y : Int32} (hd : decode cc pc = .ok (.iushr, 1)) (k : pw X G A Q (pc + 1) L (.int (x.toUInt32 >>> (y.toUInt32 &&& Int32.toUInt32 31)).toInt32 :: st) h sz nc ns) : pw X G A Q pc L (.int y :: .int x :: st) h sz nc ns := fun H locs ls a1 a2 a3 a4 a5 => lv_iushr hC.1 hC.2.1 hd rfl (k H locs ls a1 a2 a3 a4 a5)
theorem pr_idiv (hC : px_C X G A cc own nL) {x y : Int32} (hd : decode cc pc = .ok (.idiv, 1)) (hne : ¬ y = 0) (k : pw X G A Q (pc + 1) L (.int (x / y) :: st) h sz nc ns) : pw X G A Q pc L (.int y :: .int x :: st) h sz nc ns := fun H locs ls a1 a2 a3 a4 a5 => lv_idiv hC.1 hC.2.1 hd hne (k H locs ls a1 a2 a3 a4 a5)
theorem pr_irem (hC : px_C X G A cc own nL) {x y : Int32} (hd : decode cc pc = .ok (.irem, 1)) (hne : ¬ y = 0) (k : pw X G A Q (pc + 1) L (.int (x - x / y * y) :: st) h sz nc ns) : pw X G A Q pc L (.int y :: .int x :: st) h sz nc ns := fun H locs ls a1 a2 a3 a4 a5 => lv_irem hC.1 hC.2.1 hd hne (k H locs ls a1 a2 a3 a4 a5)
theorem pr_ladd (hC : px_C X G A cc own nL) {x y : Int64} (hd : decode cc pc = .ok (.ladd, 1)) (k : pw X G A Q (pc + 1) L (.long (x + y) :: st) h sz nc ns) : pw X G A Q pc L (.long y :: .long x :: st) h sz nc ns := fun H locs ls a1 a2 a3 a4 a5 => lv_ladd hC.1 hC.2.1 hd (k H locs ls a1 a2 a3 a4 a5)
theorem pr_lsub (hC : px_C X G A cc own nL) {x y : Int64} (hd : decode cc pc = .ok (.lsub, 1)) (k : pw X G A Q (pc + 1) L (.long (x - y) :: st) h sz nc ns) : pw X G A Q pc L (.long y :: .long x :: st) h sz nc ns := fun H locs ls a1 a2 a3 a4 a5 => lv_lsub hC.1 hC.2.1 hd (k H locs ls a1 a2 a3 a4 a5)
theorem pr_lmul (hC : px_C X G A cc own nL) {x y : Int64} (hd : decode cc pc = .ok (.lmul, 1)) (k : pw X G A Q (pc + 1) L (.long (x * y) :: st) h sz nc ns) : pw X G A Q pc L (.long y :: .long x :: st) h sz nc ns := fun H locs ls a1 a2 a3 a4 a5 => lv_lmul hC.1 hC.2.1 hd (k H locs ls a1 a2 a3 a4 a5)
theorem pr_lxor (hC : px_C X G A cc own nL) {x y : Int64} (hd : decode cc pc = .ok (.lxor, 1)) (k : pw X G A Q (pc + 1) L (.long (x ^^^ y) :: st) h sz nc ns) : pw X G A Q pc L (.long y :: .long x :: st) h sz nc ns := fun H locs ls a1 a2 a3 a4 a5 => lv_lxor hC.1 hC.2.1 hd (k H locs ls a1 a2 a3 a4 a5)
theorem pr_ldiv (hC : px_C X G A cc own nL) {x y : Int64} (hd : decode cc pc = .ok (.ldiv, 1)) (hne : ¬ y = 0) (k : pw X G A Q (pc + 1) L (.long (x / y) :: st) h sz nc ns) : pw X G A Q pc L (.long y :: .long x :: st) h sz nc ns := fun H locs ls a1 a2 a3 a4 a5 => lv_ldiv hC.1 hC.2.1 hd hne (k H locs ls a1 a2 a3 a4 a5)
theorem pr_lrem (hC : px_C X G A cc own nL) {x y : Int64} (hd : decode cc pc = .ok (.lrem, 1)) (hne : ¬ y = 0) (k : pw X G A Q (pc + 1) L (.long (x - x / y * y) :: st) h sz nc ns) : pw X G A Q pc L (.long y :: .long x :: st) h sz nc ns := fun H locs ls a1 a2 a3 a4 a5 => lv_lrem hC.1 hC.2.1 hd hne (k H locs ls a1 a2 a3 a4 a5)
theorem pr_lcmp (hC : px_C X G A cc own nL) {x y : Int64} (hd : decode cc pc = .ok (.lcmp, 1)) (k : pw X G A Q (pc + 1) L (.int (lg_cmp x y) :: st) h sz nc ns) : pw X G A Q pc L (.long y :: .long x :: st) h sz nc ns := fun H locs ls a1 a2 a3 a4 a5 => W.lcmp hC.1 hC.2.1 hd (k H locs ls a1 a2 a3 a4 a5)
theorem pr_ineg (hC : px_C X G A cc own nL) {x : Int32} (hd : decode cc pc = .ok (.ineg, 1)) (k : pw X G A Q (pc + 1) L (.int (-x) :: st) h sz nc ns) : pw X G A Q pc L (.int x :: st) h sz nc ns := fun H locs ls a1 a2 a3 a4 a5 => lv_ineg hC.1 hC.2.1 hd (k H locs ls a1 a2 a3 a4 a5)
theorem pr_i2l (hC : px_C X G A cc own nL) {x : Int32} (hd : decode cc pc = .ok (.i2l, 1)) (k : pw X G A Q (pc + 1) L (.long x.toInt64 :: st) h sz nc ns) : pw X G A Q pc L (.int x :: st) h sz nc ns := fun H locs ls a1 a2 a3 a4 a5 => lv_i2l hC.1 hC.2.1 hd rfl (k H locs ls a1 a2 a3 a4 a5)
theorem pr_l2i (hC : px_C X G A cc own nL) {x : Int64} (hd : decode cc pc = .ok (.l2i, 1)) (k : pw X G A Q (pc + 1) L (.int x.toInt32 :: st) h sz nc ns) : pw X G A Q pc L (.long x :: st) h sz nc ns := fun H locs ls a1 a2 a3 a4 a5 => lv_l2i hC.1 hC.2.1 hd rfl (k H locs ls a1 a2 a3 a4 a5)
theorem pr_i2b (hC : px_C X G A cc own nL) {x : Int32} (hd : decode cc pc = .ok (.i2b, 1)) (k : pw X G A Q (pc + 1) L (.int x.toInt8.toInt32 :: st) h sz nc ns) : pw X G A Q pc L (.int x :: st) h sz nc ns := fun H locs ls a1 a2 a3 a4 a5 => lv_i2b hC.1 hC.2.1 hd rfl (k H locs ls a1 a2 a3 a4 a5)
theorem pr_i2c (hC : px_C X G A cc own nL) {x : Int32} (hd : decode cc pc = .ok (.i2c, 1)) (k : pw X G A Q (pc + 1) L (.int (x.toUInt32 % 65536).toInt32 :: st) h sz nc ns) : pw X G A Q pc L (.int x :: st) h sz nc ns := fun H locs ls a1 a2 a3 a4 a5 => lv_i2c hC.1 hC.2.1 hd rfl (k H locs ls a1 a2 a3 a4 a5)
theorem pr_i2f (hC : px_C X G A cc own nL) {x : Int32} (hd : decode cc pc = .ok (.i2f, 1)) (k : pw X G A Q (pc + 1) L (.float (FP.i2f x) :: st) h sz nc ns) : pw X G A Q pc L (.int x :: st) h sz nc ns := fun H locs ls a1 a2 a3 a4 a5 => lv_i2f hC.1 hC.2.1 hd (k H locs ls a1 a2 a3 a4 a5)
theorem pr_f2i (hC : px_C X G A cc own nL) {x : UInt32} (hd : decode cc pc = .ok (.f2i, 1)) (k : pw X G A Q (pc + 1) L (.int (FP.f2i x) :: st) h sz nc ns) : pw X G A Q pc L (.float x :: st) h sz nc ns := fun H locs ls a1 a2 a3 a4 a5 => lv_f2i hC.1 hC.2.1 hd (k H locs ls a1 a2 a3 a4 a5)
theorem pr_fadd (hC : px_C X G A cc own nL) {x y : UInt32} (hd : decode cc pc = .ok (.fadd, 1)) (hne : vf_n32 (FP.fadd x y)) (k : pw X G A Q (pc + 1) L (.float (FP.fadd x y) :: st) h sz nc ns) : pw X G A Q pc L (.float y :: .float x :: st) h sz nc ns := fun H locs ls a1 a2 a3 a4 a5 => lv_fadd hC.1 hC.2.1 hd hne (k H locs ls a1 a2 a3 a4 a5)
theorem pr_fsub (hC : px_C X G A cc own nL) {x y : UInt32} (hd : decode cc pc = .ok (.fsub, 1)) (hne : vf_n32 (FP.fsub x y)) (k : pw X G A Q (pc + 1) L (.float (FP.fsub x y) :: st) h sz nc ns) : pw X G A Q pc L (.float y :: .float x :: st) h sz nc ns := fun H locs ls a1 a2 a3 a4 a5 => lv_fsub hC.1 hC.2.1 hd hne (k H locs ls a1 a2 a3 a4 a5)
theorem pr_fmul (hC : px_C X G A cc own nL) {x y : UInt32} (hd : decode cc pc = .ok (.fmul, 1)) (hne : vf_n32 (FP.fmul x y)) (k : pw X G A Q (pc + 1) L (.float (FP.fmul x y) :: st) h sz nc ns) : pw X G A Q pc L (.float y :: .float x :: st) h sz nc ns := fun H locs ls a1 a2 a3 a4 a5 => lv_fmul hC.1 hC.2.1 hd hne (k H locs ls a1 a2 a3 a4 a5)
theorem pr_fdiv (hC : px_C X G A cc own nL) {x y : UInt32} (hd : decode cc pc = .ok (.fdiv, 1)) (hne : vf_n32 (FP.fdiv x y)) (k : pw X G A Q (pc + 1) L (.float (FP.fdiv x y) :: st) h sz nc ns) : pw X G A Q pc L (.float y :: .float x :: st) h sz nc ns := fun H locs ls a1 a2 a3 a4 a5 => lv_fdiv hC.1 hC.2.1 hd hne (k H locs ls a1 a2 a3 a4 a5)
theorem pr_fcmp (hC : px_C X G A cc own nL) {x y : UInt32} {op : CmpOp} (hd : decode cc pc = .ok (.fcmp op, 1)) (k : pw X G A Q (pc + 1) L (.int (Op.cmpValue (FP.fcmp x y) op) :: st) h sz nc ns) : pw X G A Q pc L (.float y :: .float x :: st) h sz nc ns := fun H locs ls a1 a2 a3 a4 a5 => lv_fcmp hC.1 hC.2.1 hd (k H locs ls a1 a2 a3 a4 a5)
theorem pr_dup (hC : px_C X G A cc own nL) {va : Value} (hd : decode cc pc = .ok (.dup, 1)) (hva : va.category = 1) (k : pw X G A Q (pc + 1) L (va :: va :: st) h sz nc ns) : pw X G A Q pc L (va :: st) h sz nc ns := fun H locs ls a1 a2 a3 a4 a5 => lv_dup hC.1 hC.2.1 hd hva (k H locs ls a1 a2 a3 a4 a5)
theorem pr_pop (hC : px_C X G A cc own nL) {va : Value} (hd : decode cc pc = .ok (.pop, 1)) (hva : va.category = 1) (k : pw X G A Q (pc + 1) L st h sz nc ns) : pw X G A Q pc L (va :: st) h sz nc ns := fun H locs ls a1 a2 a3 a4 a5 => lv_pop hC.1 hC.2.1 hd hva (k H locs ls a1 a2 a3 a4 a5)
theorem pr_dup2 (hC : px_C X G A cc own nL) {va vb : Value} (hd : decode cc pc = .ok (.dup2, 1)) (hva : va.category = 1) (hvb : vb.category = 1) (k : pw X G A Q (pc + 1) L (va :: vb :: va :: vb :: st) h sz nc ns) : pw X G A Q pc L (va :: vb :: st) h sz nc ns := fun H locs ls a1 a2 a3 a4 a5 => lv_dup2_11 hC.1 hC.2.1 hd hva hvb (k H locs ls a1 a2 a3 a4 a5)
theorem pr_if_eq (hC : px_C X G A cc own nL) {x : Int32} {off : Int} (tgt : Nat) (hd : decode cc pc = .ok (.ifCond .eq off, 3)) (ht : (pc : Int) + off = (tgt : Int)) (kt : x = 0 → pw X G A Q tgt L st h sz nc ns) (kf : ¬ (x = 0) → pw X G A Q (pc + 3) L st h sz nc ns) : pw X G A Q pc L (.int x :: st) h sz nc ns := fun H locs ls a1 a2 a3 a4 a5 => lv_if_eq hC.1 hC.2.1 hd ht (fun q => kt q H locs ls a1 a2 a3 a4 a5) (fun q => kf q H locs ls a1 a2 a3 a4 a5)
theorem pr_if_ne (hC : px_C X G A cc own nL) {x : Int32} {off : Int} (tgt : Nat) (hd : decode cc pc = .ok (.ifCond .ne off, 3)) (ht : (pc : Int) + off = (tgt : Int)) (kt : ¬ x = 0 → pw X G A Q tgt L st h sz nc ns) (kf : x = 0 → pw X G A Q (pc + 3) L st h sz nc ns) : pw X G A Q pc L (.int x :: st) h sz nc ns := fun H locs ls a1 a2 a3 a4 a5 => lv_if_ne hC.1 hC.2.1 hd ht (fun q => kt q H locs ls a1 a2 a3 a4 a5) (fun q => kf q H locs ls a1 a2 a3 a4 a5)
theorem pr_if_lt (hC : px_C X G A cc own nL) {x : Int32} {off : Int} (tgt : Nat) (hd : decode cc pc = .ok (.ifCond .lt off, 3)) (ht : (pc : Int) + off = (tgt : Int)) (kt : x < 0 → pw X G A Q tgt L st h sz nc ns) (kf : ¬ (x < 0) → pw X G A Q (pc + 3) L st h sz nc ns) : pw X G A Q pc L (.int x :: st) h sz nc ns := fun H locs ls a1 a2 a3 a4 a5 => lv_if_lt hC.1 hC.2.1 hd ht (fun q => kt q H locs ls a1 a2 a3 a4 a5) (fun q => kf q H locs ls a1 a2 a3 a4 a5)
theorem pr_if_ge (hC : px_C X G A cc own nL) {x : Int32} {off : Int} (tgt : Nat) (hd : decode cc pc = .ok (.ifCond .ge off, 3)) (ht : (pc : Int) + off = (tgt : Int)) (kt : 0 ≤ x → pw X G A Q tgt L st h sz nc ns) (kf : ¬ (0 ≤ x) → pw X G A Q (pc + 3) L st h sz nc ns) : pw X G A Q pc L (.int x :: st) h sz nc ns := fun H locs ls a1 a2 a3 a4 a5 => lv_if_ge hC.1 hC.2.1 hd ht (fun q => kt q H locs ls a1 a2 a3 a4 a5) (fun q => kf q H locs ls a1 a2 a3 a4 a5)
theorem pr_if_gt (hC : px_C X G A cc own nL) {x : Int32} {off : Int} (tgt : Nat) (hd : decode cc pc = .ok (.ifCond .gt off, 3)) (ht : (pc : Int) + off = (tgt : Int)) (kt : 0 < x → pw X G A Q tgt L st h sz nc ns) (kf : ¬ (0 < x) → pw X G A Q (pc + 3) L st h sz nc ns) : pw X G A Q pc L (.int x :: st) h sz nc ns := fun H locs ls a1 a2 a3 a4 a5 => lv_if_gt hC.1 hC.2.1 hd ht (fun q => kt q H locs ls a1 a2 a3 a4 a5) (fun q => kf q H locs ls a1 a2 a3 a4 a5)
theorem pr_if_le (hC : px_C X G A cc own nL) {x : Int32} {off : Int} (tgt : Nat) (hd : decode cc pc = .ok (.ifCond .le off, 3)) (ht : (pc : Int) + off = (tgt : Int)) (kt : x ≤ 0 → pw X G A Q tgt L st h sz nc ns) (kf : ¬ (x ≤ 0) → pw X G A Q (pc + 3) L st h sz nc ns) : pw X G A Q pc L (.int x :: st) h sz nc ns := fun H locs ls a1 a2 a3 a4 a5 => lv_if_le hC.1 hC.2.1 hd ht (fun q => kt q H locs ls a1 a2 a3 a4 a5) (fun q => kf q H locs ls a1 a2 a3 a4 a5)
theorem pr_icmp_eq (hC : px_C X G A cc own nL) {x y : Int32} {off : Int} (tgt : Nat) (hd : decode cc pc = .ok (.if_icmp .eq off, 3)) (ht : (pc : Int) + off = (tgt : Int)) (kt : x = y → pw X G A Q tgt L st h sz nc ns) (kf : ¬ (x = y) → pw X G A Q (pc + 3) L st h sz nc ns) : pw X G A Q pc L (.int y :: .int x :: st) h sz nc ns := fun H locs ls a1 a2 a3 a4 a5 => lv_icmp_eq hC.1 hC.2.1 hd ht (fun q => kt q H locs ls a1 a2 a3 a4 a5) (fun q => kf q H locs ls a1 a2 a3 a4 a5)
theorem pr_icmp_ne (hC : px_C X G A cc own nL) {x y : Int32} {off : Int} (tgt : Nat) (hd : decode cc pc = .ok (.if_icmp .ne off, 3)) (ht : (pc : Int) + off = (tgt : Int)) (kt : ¬ x = y → pw X G A Q tgt L st h sz nc ns) (kf : x = y → pw X G A Q (pc + 3) L st h sz nc ns) : pw X G A Q pc L (.int y :: .int x :: st) h sz nc ns := fun H locs ls a1 a2 a3 a4 a5 => lv_icmp_ne hC.1 hC.2.1 hd ht (fun q => kt q H locs ls a1 a2 a3 a4 a5) (fun q => kf q H locs ls a1 a2 a3 a4 a5)
theorem pr_icmp_lt (hC : px_C X G A cc own nL) {x y : Int32} {off : Int} (tgt : Nat) (hd : decode cc pc = .ok (.if_icmp .lt off, 3)) (ht : (pc : Int) + off = (tgt : Int)) (kt : x < y → pw X G A Q tgt L st h sz nc ns) (kf : ¬ (x < y) → pw X G A Q (pc + 3) L st h sz nc ns) : pw X G A Q pc L (.int y :: .int x :: st) h sz nc ns := fun H locs ls a1 a2 a3 a4 a5 => lv_icmp_lt hC.1 hC.2.1 hd ht (fun q => kt q H locs ls a1 a2 a3 a4 a5) (fun q => kf q H locs ls a1 a2 a3 a4 a5)
theorem pr_icmp_ge (hC : px_C X G A cc own nL) {x y : Int32} {off : Int} (tgt : Nat) (hd : decode cc pc = .ok (.if_icmp .ge off, 3)) (ht : (pc : Int) + off = (tgt : Int)) (kt : y ≤ x → pw X G A Q tgt L st h sz nc ns) (kf : ¬ (y ≤ x) → pw X G A Q (pc + 3) L st h sz nc ns) : pw X G A Q pc L (.int y :: .int x :: st) h sz nc ns := fun H locs ls a1 a2 a3 a4 a5 => lv_icmp_ge hC.1 hC.2.1 hd ht (fun q => kt q H locs ls a1 a2 a3 a4 a5) (fun q => kf q H locs ls a1 a2 a3 a4 a5)
theorem pr_icmp_gt (hC : px_C X G A cc own nL) {x y : Int32} {off : Int} (tgt : Nat) (hd : decode cc pc = .ok (.if_icmp .gt off, 3)) (ht : (pc : Int) + off = (tgt : Int)) (kt : y < x → pw X G A Q tgt L st h sz nc ns) (kf : ¬ (y < x) → pw X G A Q (pc + 3) L st h sz nc ns) : pw X G A Q pc L (.int y :: .int x :: st) h sz nc ns := fun H locs ls a1 a2 a3 a4 a5 => lv_icmp_gt hC.1 hC.2.1 hd ht (fun q => kt q H locs ls a1 a2 a3 a4 a5) (fun q => kf q H locs ls a1 a2 a3 a4 a5)
theorem pr_icmp_le (hC : px_C X G A cc own nL) {x y : Int32} {off : Int} (tgt : Nat) (hd : decode cc pc = .ok (.if_icmp .le off, 3)) (ht : (pc : Int) + off = (tgt : Int)) (kt : x ≤ y → pw X G A Q tgt L st h sz nc ns) (kf : ¬ (x ≤ y) → pw X G A Q (pc + 3) L st h sz nc ns) : pw X G A Q pc L (.int y :: .int x :: st) h sz nc ns := fun H locs ls a1 a2 a3 a4 a5 => lv_icmp_le hC.1 hC.2.1 hd ht (fun q => kt q H locs ls a1 a2 a3 a4 a5) (fun q => kf q H locs ls a1 a2 a3 a4 a5)
theorem pr_goto (hC : px_C X G A cc own nL) {off : Int} (tgt : Nat) (hd : decode cc pc = .ok (.goto off, 3)) (ht : (pc : Int) + off = (tgt : Int)) (k : pw X G A Q tgt L st h sz nc ns) : pw X G A Q pc L st h sz nc ns := fun H locs ls a1 a2 a3 a4 a5 => lv_goto hC.1 hC.2.1 hd ht (k H locs ls a1 a2 a3 a4 a5)
theorem pr_ifnull (hC : px_C X G A cc own nL) {x : Nat} {off : Int} (hd : decode cc pc = .ok (.ifnull off, 3)) (k : pw X G A Q (pc + 3) L st h sz nc ns) : pw X G A Q pc L (.ref x :: st) h sz nc ns := fun H locs ls a1 a2 a3 a4 a5 => lv_ifnull hC.1 hC.2.1 hd (k H locs ls a1 a2 a3 a4 a5)
theorem pr_ifnullN (hC : px_C X G A cc own nL) {off : Int} (tgt : Nat) (hd : decode cc pc = .ok (.ifnull off, 3)) (ht : (pc : Int) + off = (tgt : Int)) (k : pw X G A Q tgt L st h sz nc ns) : pw X G A Q pc L (.null :: st) h sz nc ns := fun H locs ls a1 a2 a3 a4 a5 => lv_ifnullN hC.1 hC.2.1 hd ht (k H locs ls a1 a2 a3 a4 a5)
theorem pr_ifnonnull (hC : px_C X G A cc own nL) {x : Nat} {off : Int} (tgt : Nat) (hd : decode cc pc = .ok (.ifnonnull off, 3)) (ht : (pc : Int) + off = (tgt : Int)) (k : pw X G A Q tgt L st h sz nc ns) : pw X G A Q pc L (.ref x :: st) h sz nc ns := fun H locs ls a1 a2 a3 a4 a5 => lv_ifnonnull hC.1 hC.2.1 hd ht (k H locs ls a1 a2 a3 a4 a5)
theorem pr_ifnonnullN (hC : px_C X G A cc own nL) {off : Int} (hd : decode cc pc = .ok (.ifnonnull off, 3)) (k : pw X G A Q (pc + 3) L st h sz nc ns) : pw X G A Q pc L (.null :: st) h sz nc ns := fun H locs ls a1 a2 a3 a4 a5 => lv_ifnonnullN hC.1 hC.2.1 hd (k H locs ls a1 a2 a3 a4 a5)
theorem pr_tableOut (hC : px_C X G A cc own nL) {dflt lo hi : Int} {offs : Array Int} {len : Nat} {x : Int32} (tgt : Nat) (hd : decode cc pc = .ok (.tableswitch dflt lo hi offs, len)) (ht : (pc : Int) + dflt = (tgt : Int)) (hx : x.toInt < lo ∨ hi < x.toInt) (k : pw X G A Q tgt L st h sz nc ns) : pw X G A Q pc L (.int x :: st) h sz nc ns := fun H locs ls a1 a2 a3 a4 a5 => lv_tableOut hC.1 hC.2.1 hd hx ht (k H locs ls a1 a2 a3 a4 a5)
theorem pr_tableIn (hC : px_C X G A cc own nL) {dflt lo hi : Int} {offs : Array Int} {len : Nat} {x : Int32} {off : Int} (tgt : Nat) (hd : decode cc pc = .ok (.tableswitch dflt lo hi offs, len)) (h1 : ¬ x.toInt < lo) (h2 : ¬ hi < x.toInt) (ho : offs[(x.toInt - lo).toNat]? = some off) (ht : (pc : Int) + off = (tgt : Int)) (k : pw X G A Q tgt L st h sz nc ns) : pw X G A Q pc L (.int x :: st) h sz nc ns := fun H locs ls a1 a2 a3 a4 a5 => lv_tableIn hC.1 hC.2.1 hd h1 h2 ho ht (k H locs ls a1 a2 a3 a4 a5)
theorem pr_lookup (hC : px_C X G A cc own nL) {dflt : Int} {ps : Array (Int × Int)} {len : Nat} {x : Int32} {off : Int} (tgt : Nat) (hd : decode cc pc = .ok (.lookupswitch dflt ps, len)) (hp : (ps.toList.zip (ps.toList.drop 1)).all (fun (a, next) => a.1 < next.1) = true) (ho : Op.lookupswitch.offset ps.toList dflt x.toInt = off) (ht : (pc : Int) + off = (tgt : Int)) (k : pw X G A Q tgt L st h sz nc ns) : pw X G A Q pc L (.int x :: st) h sz nc ns := fun H locs ls a1 a2 a3 a4 a5 => lv_lookup hC.1 hC.2.1 hd hp ho ht (k H locs ls a1 a2 a3 a4 a5)
end PW
