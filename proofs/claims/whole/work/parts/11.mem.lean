/-! the memory: objects by number, their fields, their rows; the heap holds it at addresses that are apart -/
abbrev Um : Type := (Nat → Nat → Int32) × (Nat → Nat → Int64) × (Nat → Nat → Nat) × (Nat → Nat → Nat → Int32) × (Nat → Nat → Nat → Int64) × (Nat → Nat → Nat → UInt32) × (Nat → Nat → Nat → Nat)
def uI (U : Um) (o k : Nat) : Int32 := U.1 o k
def uL (U : Um) (o k : Nat) : Int64 := U.2.1 o k
def uR (U : Um) (o k : Nat) : Nat := U.2.2.1 o k
def uA (U : Um) (o k : Nat) : Nat → Int32 := U.2.2.2.1 o k
def uJ (U : Um) (o k : Nat) : Nat → Int64 := U.2.2.2.2.1 o k
def uF (U : Um) (o k : Nat) : Nat → UInt32 := U.2.2.2.2.2.1 o k
def uAR (U : Um) (o k : Nat) : Nat → Nat := U.2.2.2.2.2.2 o k
def u_up {α : Type} (f : Nat → Nat → α) (o k : Nat) (x : α) : Nat → Nat → α := fun o2 k2 => if o2 = o ∧ k2 = k then x else f o2 k2
theorem u_up_eq {α : Type} {f : Nat → Nat → α} {o k : Nat} {x : α} : u_up f o k x o k = x := if_pos ⟨rfl, rfl⟩
theorem u_up_ne {α : Type} {f : Nat → Nat → α} {o k o2 k2 : Nat} {x : α} (h : ¬ (o2 = o ∧ k2 = k)) : u_up f o k x o2 k2 = f o2 k2 := if_neg h
def sI (U : Um) (o k : Nat) (x : Int32) : Um := (u_up U.1 o k x, U.2.1, U.2.2.1, U.2.2.2.1, U.2.2.2.2.1, U.2.2.2.2.2.1, U.2.2.2.2.2.2)
def sL (U : Um) (o k : Nat) (x : Int64) : Um := (U.1, u_up U.2.1 o k x, U.2.2.1, U.2.2.2.1, U.2.2.2.2.1, U.2.2.2.2.2.1, U.2.2.2.2.2.2)
def sR (U : Um) (o k : Nat) (x : Nat) : Um := (U.1, U.2.1, u_up U.2.2.1 o k x, U.2.2.2.1, U.2.2.2.2.1, U.2.2.2.2.2.1, U.2.2.2.2.2.2)
def sA (U : Um) (o k : Nat) (x : Nat → Int32) : Um := (U.1, U.2.1, U.2.2.1, u_up U.2.2.2.1 o k x, U.2.2.2.2.1, U.2.2.2.2.2.1, U.2.2.2.2.2.2)
def sJ (U : Um) (o k : Nat) (x : Nat → Int64) : Um := (U.1, U.2.1, U.2.2.1, U.2.2.2.1, u_up U.2.2.2.2.1 o k x, U.2.2.2.2.2.1, U.2.2.2.2.2.2)
def sF (U : Um) (o k : Nat) (x : Nat → UInt32) : Um := (U.1, U.2.1, U.2.2.1, U.2.2.2.1, U.2.2.2.2.1, u_up U.2.2.2.2.2.1 o k x, U.2.2.2.2.2.2)
theorem uI_sI {U : Um} {o k o2 k2 : Nat} {x : Int32} : uI (sI U o k x) o2 k2 = if o2 = o ∧ k2 = k then x else uI U o2 k2 := rfl
theorem uL_sI {U : Um} {o k o2 k2 : Nat} {x : Int32} : uL (sI U o k x) o2 k2 = uL U o2 k2 := rfl
theorem uR_sI {U : Um} {o k o2 k2 : Nat} {x : Int32} : uR (sI U o k x) o2 k2 = uR U o2 k2 := rfl
theorem uA_sI {U : Um} {o k o2 k2 : Nat} {x : Int32} : uA (sI U o k x) o2 k2 = uA U o2 k2 := rfl
theorem uJ_sI {U : Um} {o k o2 k2 : Nat} {x : Int32} : uJ (sI U o k x) o2 k2 = uJ U o2 k2 := rfl
theorem uF_sI {U : Um} {o k o2 k2 : Nat} {x : Int32} : uF (sI U o k x) o2 k2 = uF U o2 k2 := rfl
theorem uAR_sI {U : Um} {o k o2 k2 : Nat} {x : Int32} : uAR (sI U o k x) o2 k2 = uAR U o2 k2 := rfl
theorem uI_sL {U : Um} {o k o2 k2 : Nat} {x : Int64} : uI (sL U o k x) o2 k2 = uI U o2 k2 := rfl
theorem uL_sL {U : Um} {o k o2 k2 : Nat} {x : Int64} : uL (sL U o k x) o2 k2 = if o2 = o ∧ k2 = k then x else uL U o2 k2 := rfl
theorem uR_sL {U : Um} {o k o2 k2 : Nat} {x : Int64} : uR (sL U o k x) o2 k2 = uR U o2 k2 := rfl
theorem uA_sL {U : Um} {o k o2 k2 : Nat} {x : Int64} : uA (sL U o k x) o2 k2 = uA U o2 k2 := rfl
theorem uJ_sL {U : Um} {o k o2 k2 : Nat} {x : Int64} : uJ (sL U o k x) o2 k2 = uJ U o2 k2 := rfl
theorem uF_sL {U : Um} {o k o2 k2 : Nat} {x : Int64} : uF (sL U o k x) o2 k2 = uF U o2 k2 := rfl
theorem uAR_sL {U : Um} {o k o2 k2 : Nat} {x : Int64} : uAR (sL U o k x) o2 k2 = uAR U o2 k2 := rfl
theorem uI_sR {U : Um} {o k o2 k2 : Nat} {x : Nat} : uI (sR U o k x) o2 k2 = uI U o2 k2 := rfl
theorem uL_sR {U : Um} {o k o2 k2 : Nat} {x : Nat} : uL (sR U o k x) o2 k2 = uL U o2 k2 := rfl
theorem uR_sR {U : Um} {o k o2 k2 : Nat} {x : Nat} : uR (sR U o k x) o2 k2 = if o2 = o ∧ k2 = k then x else uR U o2 k2 := rfl
theorem uA_sR {U : Um} {o k o2 k2 : Nat} {x : Nat} : uA (sR U o k x) o2 k2 = uA U o2 k2 := rfl
theorem uJ_sR {U : Um} {o k o2 k2 : Nat} {x : Nat} : uJ (sR U o k x) o2 k2 = uJ U o2 k2 := rfl
theorem uF_sR {U : Um} {o k o2 k2 : Nat} {x : Nat} : uF (sR U o k x) o2 k2 = uF U o2 k2 := rfl
theorem uAR_sR {U : Um} {o k o2 k2 : Nat} {x : Nat} : uAR (sR U o k x) o2 k2 = uAR U o2 k2 := rfl
theorem uI_sA {U : Um} {o k o2 k2 : Nat} {x : Nat → Int32} : uI (sA U o k x) o2 k2 = uI U o2 k2 := rfl
theorem uL_sA {U : Um} {o k o2 k2 : Nat} {x : Nat → Int32} : uL (sA U o k x) o2 k2 = uL U o2 k2 := rfl
theorem uR_sA {U : Um} {o k o2 k2 : Nat} {x : Nat → Int32} : uR (sA U o k x) o2 k2 = uR U o2 k2 := rfl
theorem uA_sA {U : Um} {o k o2 k2 : Nat} {x : Nat → Int32} : uA (sA U o k x) o2 k2 = if o2 = o ∧ k2 = k then x else uA U o2 k2 := rfl
theorem uJ_sA {U : Um} {o k o2 k2 : Nat} {x : Nat → Int32} : uJ (sA U o k x) o2 k2 = uJ U o2 k2 := rfl
theorem uF_sA {U : Um} {o k o2 k2 : Nat} {x : Nat → Int32} : uF (sA U o k x) o2 k2 = uF U o2 k2 := rfl
theorem uAR_sA {U : Um} {o k o2 k2 : Nat} {x : Nat → Int32} : uAR (sA U o k x) o2 k2 = uAR U o2 k2 := rfl
theorem uI_sJ {U : Um} {o k o2 k2 : Nat} {x : Nat → Int64} : uI (sJ U o k x) o2 k2 = uI U o2 k2 := rfl
theorem uL_sJ {U : Um} {o k o2 k2 : Nat} {x : Nat → Int64} : uL (sJ U o k x) o2 k2 = uL U o2 k2 := rfl
theorem uR_sJ {U : Um} {o k o2 k2 : Nat} {x : Nat → Int64} : uR (sJ U o k x) o2 k2 = uR U o2 k2 := rfl
theorem uA_sJ {U : Um} {o k o2 k2 : Nat} {x : Nat → Int64} : uA (sJ U o k x) o2 k2 = uA U o2 k2 := rfl
theorem uJ_sJ {U : Um} {o k o2 k2 : Nat} {x : Nat → Int64} : uJ (sJ U o k x) o2 k2 = if o2 = o ∧ k2 = k then x else uJ U o2 k2 := rfl
theorem uF_sJ {U : Um} {o k o2 k2 : Nat} {x : Nat → Int64} : uF (sJ U o k x) o2 k2 = uF U o2 k2 := rfl
theorem uAR_sJ {U : Um} {o k o2 k2 : Nat} {x : Nat → Int64} : uAR (sJ U o k x) o2 k2 = uAR U o2 k2 := rfl
theorem uI_sF {U : Um} {o k o2 k2 : Nat} {x : Nat → UInt32} : uI (sF U o k x) o2 k2 = uI U o2 k2 := rfl
theorem uL_sF {U : Um} {o k o2 k2 : Nat} {x : Nat → UInt32} : uL (sF U o k x) o2 k2 = uL U o2 k2 := rfl
theorem uR_sF {U : Um} {o k o2 k2 : Nat} {x : Nat → UInt32} : uR (sF U o k x) o2 k2 = uR U o2 k2 := rfl
theorem uA_sF {U : Um} {o k o2 k2 : Nat} {x : Nat → UInt32} : uA (sF U o k x) o2 k2 = uA U o2 k2 := rfl
theorem uJ_sF {U : Um} {o k o2 k2 : Nat} {x : Nat → UInt32} : uJ (sF U o k x) o2 k2 = uJ U o2 k2 := rfl
theorem uF_sF {U : Um} {o k o2 k2 : Nat} {x : Nat → UInt32} : uF (sF U o k x) o2 k2 = if o2 = o ∧ k2 = k then x else uF U o2 k2 := rfl
theorem uAR_sF {U : Um} {o k o2 k2 : Nat} {x : Nat → UInt32} : uAR (sF U o k x) o2 k2 = uAR U o2 k2 := rfl
/-- of which class an object is (place in vwCl): 0 the roster of whistles, 1 its tape, 2 reader, 3 desk, 4 5 weeks, 6 7 roads, 8 9 laws, 10 .. 41 games, 42 .. 51 rosters, 52 .. 54 shelves, 55 the reference -/
def oc (o : Nat) : Nat := if o = 0 then 9 else if o = 1 then 7 else if o = 2 then 3 else if o = 3 then 0 else if o < 6 then 8 else if o < 8 then 4 else if o < 10 then 2 else if o < 42 then 1 else if o < 52 then 5 else if o < 55 then 6 else if o = 55 then 10 else 99
def on (c : Nat) : Nat := match c with
  | 0 => 7
  | 1 => 10
  | 2 => 5
  | 3 => 5
  | 4 => 3
  | 5 => 10
  | 6 => 3
  | 7 => 8
  | 8 => 15
  | 9 => 11
  | 10 => 54
  | _ => 0
def kf (c k : Nat) : Nat := match c, k with
  | 0, 0 => 21
  | 0, 1 => 1
  | 0, 2 => 1
  | 0, 3 => 1
  | 0, 6 => 1
  | 2, 0 => 1
  | 2, 2 => 1
  | 2, 3 => 2
  | 3, 0 => 21
  | 3, 1 => 22
  | 4, 1 => 6
  | 4, 2 => 6
  | 5, 0 => 21
  | 5, 2 => 1
  | 5, 3 => 1
  | 5, 4 => 1
  | 5, 5 => 3
  | 5, 6 => 1
  | 5, 7 => 1
  | 5, 8 => 1
  | 5, 9 => 1
  | 6, 0 => 1
  | 7, 0 => 4
  | 8, 0 => 6
  | 8, 1 => 1
  | 8, 2 => 1
  | 8, 3 => 1
  | 8, 4 => 1
  | 8, 5 => 1
  | 8, 6 => 8
  | 8, 10 => 21
  | 8, 11 => 21
  | 8, 12 => 1
  | 8, 13 => 1
  | 8, 14 => 1
  | 9, 0 => 21
  | 9, 1 => 21
  | 9, 2 => 21
  | 9, 3 => 21
  | 9, 4 => 21
  | 9, 5 => 21
  | 9, 6 => 21
  | 9, 7 => 8
  | 9, 10 => 8
  | 10, 1 => 2
  | 10, 2 => 1
  | 10, 3 => 1
  | 10, 4 => 2
  | 10, 5 => 2
  | 10, 6 => 1
  | 10, 7 => 1
  | 10, 8 => 1
  | 10, 9 => 1
  | 10, 10 => 1
  | 10, 11 => 1
  | 10, 12 => 1
  | 10, 13 => 1
  | 10, 16 => 1
  | 10, 25 => 20
  | 10, 30 => 1
  | 10, 31 => 1
  | 10, 32 => 1
  | 10, 33 => 1
  | 10, 34 => 3
  | 10, 36 => 1
  | 10, 37 => 3
  | 10, 39 => 1
  | 10, 40 => 2
  | 10, 41 => 1
  | 10, 42 => 1
  | 10, 46 => 1
  | 10, 47 => 1
  | 10, 48 => 1
  | 10, 49 => 1
  | 10, 50 => 1
  | 10, 51 => 1
  | 10, 52 => 2
  | 10, 53 => 5
  | _, _ => 0
def ln (c k : Nat) : Nat := match c, k with
  | 0, 1 => 48
  | 0, 2 => 48
  | 0, 3 => 3
  | 0, 6 => 5
  | 2, 0 => 1200
  | 2, 2 => 8
  | 2, 3 => 16
  | 4, 1 => 6
  | 4, 2 => 6
  | 5, 2 => 48
  | 5, 3 => 48
  | 5, 4 => 10
  | 5, 5 => 10
  | 5, 6 => 10
  | 5, 7 => 10
  | 5, 8 => 10
  | 5, 9 => 10
  | 6, 0 => 20
  | 7, 0 => 1200
  | 8, 0 => 3
  | 8, 1 => 3
  | 8, 2 => 10
  | 8, 3 => 10
  | 8, 4 => 10
  | 8, 5 => 10
  | 8, 6 => 16
  | 8, 12 => 16
  | 8, 13 => 7
  | 8, 14 => 6
  | 9, 7 => 8
  | 9, 10 => 3
  | 10, 1 => 12
  | 10, 2 => 72
  | 10, 3 => 36
  | 10, 4 => 16
  | 10, 5 => 20
  | 10, 6 => 20
  | 10, 7 => 20
  | 10, 8 => 20
  | 10, 9 => 20
  | 10, 10 => 256
  | 10, 11 => 14
  | 10, 12 => 2600
  | 10, 13 => 2600
  | 10, 16 => 1200
  | 10, 30 => 48
  | 10, 31 => 48
  | 10, 32 => 10
  | 10, 33 => 10
  | 10, 34 => 10
  | 10, 36 => 936
  | 10, 37 => 80
  | 10, 39 => 16
  | 10, 40 => 1300
  | 10, 41 => 3
  | 10, 42 => 3
  | 10, 46 => 48
  | 10, 47 => 48
  | 10, 48 => 5
  | 10, 49 => 10
  | 10, 50 => 3
  | 10, 51 => 3
  | 10, 52 => 60
  | 10, 53 => 60
  | _, _ => 0
def ln2 (c k : Nat) : Nat := match c, k with
  | 4, 1 => 6
  | 4, 2 => 6
  | 8, 0 => 10
  | _, _ => 0
/-- what a row of objects is made of (place in pt_tys) -/
def rt (c k : Nat) : Nat := match c, k with
  | 8, 6 => 8
  | 9, 7 => 6
  | 9, 10 => 7
  | _, _ => 6
theorem rt_ref (c k : Nat) : pt_ref (rt c k) := by
  unfold rt
  split
  all_goals first | exact pt_ref6 | exact pt_ref7 | exact pt_ref8
abbrev px_Y : Type := px_D × (Nat → Nat) × (Nat → Nat → Nat)
def oF (Y : px_Y) (U : Um) (o : Nat) : Nat → Value := fun k =>
  if kf (oc o) k = 0 then .int (uI U o k) else if kf (oc o) k = 20 then .long (uL U o k) else if kf (oc o) k = 21 then .ref (Y.2.1 (uR U o k)) else if kf (oc o) k = 22 then (if uR U o k = 99 then .null else .ref (Y.2.1 (uR U o k))) else .ref (Y.2.2 o k)
/-- the place of the i-th inner row of row k -/
def ki (k i : Nat) : Nat := k + 100 * (i + 1)
def rU (Y : px_Y) (U : Um) (h : pe_H) : Prop :=
  (∀ o, oc o < 11 → h (Y.2.1 o) = some (po (oc o) (on (oc o)) (oF Y U o))) ∧
  (∀ o k, kf (oc o) k = 1 → h (Y.2.2 o k) = some (pa_i Y.1 (ln (oc o) k) (uA U o k))) ∧
  (∀ o k, kf (oc o) k = 2 → h (Y.2.2 o k) = some (pa_l Y.1 (ln (oc o) k) (uJ U o k))) ∧
  (∀ o k, kf (oc o) k = 3 → h (Y.2.2 o k) = some (pa_f Y.1 (ln (oc o) k) (uF U o k))) ∧
  (∀ o k, kf (oc o) k = 4 → h (Y.2.2 o k) = some (pa_b Y.1 (ln (oc o) k) (uA U o k))) ∧
  (∀ o k, kf (oc o) k = 5 → h (Y.2.2 o k) = some (pa_z Y.1 (ln (oc o) k) (uA U o k))) ∧
  (∀ o k, kf (oc o) k = 6 → h (Y.2.2 o k) = some (pa_r Y.1 5 (ln (oc o) k) (fun i => some (Y.2.2 o (ki k i))))) ∧
  (∀ o k i, kf (oc o) k = 6 → i < ln (oc o) k → h (Y.2.2 o (ki k i)) = some (pa_i Y.1 (ln2 (oc o) k) (uA U o (ki k i)))) ∧
  (∀ o k, kf (oc o) k = 8 → h (Y.2.2 o k) = some (pa_r Y.1 (rt (oc o) k) (ln (oc o) k) (fun i => some (Y.2.1 (uAR U o k i)))))
/-- all addresses are apart -/
def yA (Y : px_Y) : Prop := ∃ id : Nat → Nat × Nat, (∀ o, id (Y.2.1 o) = (o, 0)) ∧ ∀ o k, id (Y.2.2 o k) = (o, k + 1)
def dU (Y : px_Y) (a : Nat) : Prop := (∃ o, a = Y.2.1 o) ∨ ∃ o k, a = Y.2.2 o k
/-- the heap h holds U, and is h0 elsewhere -/
def rF (Y : px_Y) (h0 : pe_H) (U : Um) (h : pe_H) : Prop := yA Y ∧ rU Y U h ∧ ∀ a, ¬ dU Y a → h a = h0 a
theorem yA.aa {Y : px_Y} (hy : yA Y) {o k o2 k2 : Nat} (h : Y.2.2 o k = Y.2.2 o2 k2) : o = o2 ∧ k = k2 := by
  obtain ⟨id, h1, h2⟩ := hy
  have := congrArg id h
  rw [h2, h2] at this
  simp at this
  exact this
theorem yA.dd {Y : px_Y} (hy : yA Y) {o o2 : Nat} (h : Y.2.1 o = Y.2.1 o2) : o = o2 := by
  obtain ⟨id, h1, h2⟩ := hy
  have := congrArg id h
  rw [h1, h1] at this
  simp at this
  exact this
theorem yA.ad {Y : px_Y} (hy : yA Y) {o o2 k2 : Nat} (h : Y.2.2 o2 k2 = Y.2.1 o) : False := by
  obtain ⟨id, h1, h2⟩ := hy
  have := congrArg id h
  rw [h1, h2] at this
  simp at this
theorem ki_inj {k i k2 i2 : Nat} (hk : k < 100) (hk2 : k2 < 100) (h : ki k i = ki k2 i2) : k = k2 ∧ i = i2 := by
  unfold ki at h
  omega
theorem kf_lt {c k : Nat} (h : kf c k ≠ 0) : k < 100 := by
  unfold kf at h
  split at h <;> first | omega | exact absurd rfl h
theorem ki_ne {k2 k i : Nat} (hk : k2 < 100) : k2 ≠ ki k i := by
  unfold ki
  omega

theorem rF.putO {Y : px_Y} {h0 h : pe_H} {U U' : Um} {o : Nat} (hU : rF Y h0 U h) (e1 : ∀ o2, o2 ≠ o → oF Y U' o2 = oF Y U o2) (e2 : ∀ o2 k2, uA U' o2 k2 = uA U o2 k2) (e3 : ∀ o2 k2, uJ U' o2 k2 = uJ U o2 k2) (e4 : ∀ o2 k2, uF U' o2 k2 = uF U o2 k2) (e5 : ∀ o2 k2, uAR U' o2 k2 = uAR U o2 k2) : rF Y h0 U' (pe_set h (Y.2.1 o) (po (oc o) (on (oc o)) (oF Y U' o))) := by
  obtain ⟨hy, ⟨h1, h2, h3, h4, h5, h6, h7, h8, h9⟩, hf⟩ := hU
  refine ⟨hy, ⟨fun o2 ho2 => ?_, fun o2 k2 hk2 => ?_, fun o2 k2 hk2 => ?_, fun o2 k2 hk2 => ?_, fun o2 k2 hk2 => ?_, fun o2 k2 hk2 => ?_, fun o2 k2 hk2 => ?_, fun o2 k2 i hk2 hi => ?_, fun o2 k2 hk2 => ?_⟩, fun a ha => ?_⟩
  · by_cases e : o2 = o
    · subst e
      rw [pe_set_eq]
    · rw [pe_set_ne (fun q => e (hy.dd q)), h1 o2 ho2, e1 o2 e]
  · rw [pe_set_ne (fun q => hy.ad q), h2 o2 k2 hk2, e2]
  · rw [pe_set_ne (fun q => hy.ad q), h3 o2 k2 hk2, e3]
  · rw [pe_set_ne (fun q => hy.ad q), h4 o2 k2 hk2, e4]
  · rw [pe_set_ne (fun q => hy.ad q), h5 o2 k2 hk2, e2]
  · rw [pe_set_ne (fun q => hy.ad q), h6 o2 k2 hk2, e2]
  · rw [pe_set_ne (fun q => hy.ad q), h7 o2 k2 hk2]
  · rw [pe_set_ne (fun q => hy.ad q), h8 o2 k2 i hk2 hi, e2]
  · rw [pe_set_ne (fun q => hy.ad q), h9 o2 k2 hk2, e5]
  · rw [pe_set_ne (fun q => ha (Or.inl ⟨o, q⟩))]
    exact hf a ha
theorem oF_sA {Y : px_Y} {U : Um} {o k : Nat} {f : Nat → Int32} (o2 : Nat) : oF Y (sA U o k f) o2 = oF Y U o2 := rfl
theorem oF_sJ {Y : px_Y} {U : Um} {o k : Nat} {f : Nat → Int64} (o2 : Nat) : oF Y (sJ U o k f) o2 = oF Y U o2 := rfl
theorem oF_sF {Y : px_Y} {U : Um} {o k : Nat} {f : Nat → UInt32} (o2 : Nat) : oF Y (sF U o k f) o2 = oF Y U o2 := rfl
/-- into a row of ints (or bytes, booleans), of an object itself or an inner one -/
theorem rF.putA {Y : px_Y} {h0 h : pe_H} {U : Um} {o k : Nat} {f : Nat → Int32} {e : va_E} (hU : rF Y h0 U h)
    (hk1 : kf (oc o) k = 1 → e = pa_i Y.1 (ln (oc o) k) f) (hk2 : kf (oc o) k ≠ 2) (hk3 : kf (oc o) k ≠ 3) (hk4 : kf (oc o) k = 4 → e = pa_b Y.1 (ln (oc o) k) f) (hk5 : kf (oc o) k = 5 → e = pa_z Y.1 (ln (oc o) k) f) (hk6 : kf (oc o) k ≠ 6) (hk7 : ∀ k' i, kf (oc o) k' = 6 → i < ln (oc o) k' → k = ki k' i → e = pa_i Y.1 (ln2 (oc o) k') f) (hk8 : kf (oc o) k ≠ 8) : rF Y h0 (sA U o k f) (pe_set h (Y.2.2 o k) e) := by
  obtain ⟨hy, ⟨h1, h2, h3, h4, h5, h6, h7, h8, h9⟩, hf⟩ := hU
  have ne : ∀ {o2 k2 : Nat}, ¬ (o2 = o ∧ k2 = k) → pe_set h (Y.2.2 o k) e (Y.2.2 o2 k2) = h (Y.2.2 o2 k2) ∧ uA (sA U o k f) o2 k2 = uA U o2 k2 := fun q => ⟨pe_set_ne (fun z => q (hy.aa z)), u_up_ne q⟩
  refine ⟨hy, ⟨fun o2 ho2 => ?_, fun o2 k2 hq => ?_, fun o2 k2 hq => ?_, fun o2 k2 hq => ?_, fun o2 k2 hq => ?_, fun o2 k2 hq => ?_, fun o2 k2 hq => ?_, fun o2 k2 i hq hi => ?_, fun o2 k2 hq => ?_⟩, fun a ha => ?_⟩
  · rw [pe_set_ne (fun q => hy.ad q.symm), h1 o2 ho2]
    rfl
  · by_cases z : o2 = o ∧ k2 = k
    · obtain ⟨rfl, rfl⟩ := z
      rw [pe_set_eq, hk1 hq, uA_sA, if_pos ⟨rfl, rfl⟩]
    · rw [(ne z).1, (ne z).2, h2 o2 k2 hq]
  · have z : ¬ (o2 = o ∧ k2 = k) := by rintro ⟨rfl, rfl⟩; exact hk2 hq
    rw [(ne z).1, h3 o2 k2 hq]
    rfl
  · have z : ¬ (o2 = o ∧ k2 = k) := by rintro ⟨rfl, rfl⟩; exact hk3 hq
    rw [(ne z).1, h4 o2 k2 hq]
    rfl
  · by_cases z : o2 = o ∧ k2 = k
    · obtain ⟨rfl, rfl⟩ := z
      rw [pe_set_eq, hk4 hq, uA_sA, if_pos ⟨rfl, rfl⟩]
    · rw [(ne z).1, (ne z).2, h5 o2 k2 hq]
  · by_cases z : o2 = o ∧ k2 = k
    · obtain ⟨rfl, rfl⟩ := z
      rw [pe_set_eq, hk5 hq, uA_sA, if_pos ⟨rfl, rfl⟩]
    · rw [(ne z).1, (ne z).2, h6 o2 k2 hq]
  · have z : ¬ (o2 = o ∧ k2 = k) := by rintro ⟨rfl, rfl⟩; exact hk6 hq
    rw [(ne z).1, h7 o2 k2 hq]
  · by_cases z : o2 = o ∧ ki k2 i = k
    · obtain ⟨rfl, rfl⟩ := z
      rw [pe_set_eq, hk7 k2 i hq hi rfl, uA_sA, if_pos ⟨rfl, rfl⟩]
    · rw [(ne z).1, (ne z).2, h8 o2 k2 i hq hi]
  · have z : ¬ (o2 = o ∧ k2 = k) := by rintro ⟨rfl, rfl⟩; exact hk8 hq
    rw [(ne z).1, h9 o2 k2 hq]
    rfl
  · rw [pe_set_ne (fun q => ha (Or.inr ⟨o, k, q⟩))]
    exact hf a ha

theorem rF.putJ {Y : px_Y} {h0 h : pe_H} {U : Um} {o k : Nat} {f : Nat → Int64} (hU : rF Y h0 U h) (hk : kf (oc o) k = 2) : rF Y h0 (sJ U o k f) (pe_set h (Y.2.2 o k) (pa_l Y.1 (ln (oc o) k) f)) := by
  obtain ⟨hy, ⟨h1, h2, h3, h4, h5, h6, h7, h8, h9⟩, hf⟩ := hU
  have ne : ∀ {o2 k2 : Nat}, ¬ (o2 = o ∧ k2 = k) → pe_set h (Y.2.2 o k) (pa_l Y.1 (ln (oc o) k) f) (Y.2.2 o2 k2) = h (Y.2.2 o2 k2) ∧ uJ (sJ U o k f) o2 k2 = uJ U o2 k2 := fun q => ⟨pe_set_ne (fun z => q (hy.aa z)), u_up_ne q⟩
  refine ⟨hy, ⟨fun o2 ho2 => ?_, fun o2 k2 hq => ?_, fun o2 k2 hq => ?_, fun o2 k2 hq => ?_, fun o2 k2 hq => ?_, fun o2 k2 hq => ?_, fun o2 k2 hq => ?_, fun o2 k2 i hq hi => ?_, fun o2 k2 hq => ?_⟩, fun a ha => ?_⟩
  · rw [pe_set_ne (fun q => hy.ad q.symm), h1 o2 ho2]
    rfl
  · have z : ¬ (o2 = o ∧ k2 = k) := by rintro ⟨rfl, rfl⟩; rw [hk] at hq; cases hq
    rw [(ne z).1, h2 o2 k2 hq]
    rfl
  · by_cases z : o2 = o ∧ k2 = k
    · obtain ⟨rfl, rfl⟩ := z
      rw [pe_set_eq, uJ_sJ, if_pos ⟨rfl, rfl⟩]
    · rw [(ne z).1, (ne z).2, h3 o2 k2 hq]
  · have z : ¬ (o2 = o ∧ k2 = k) := by rintro ⟨rfl, rfl⟩; rw [hk] at hq; cases hq
    rw [(ne z).1, h4 o2 k2 hq]
    rfl
  · have z : ¬ (o2 = o ∧ k2 = k) := by rintro ⟨rfl, rfl⟩; rw [hk] at hq; cases hq
    rw [(ne z).1, h5 o2 k2 hq]
    rfl
  · have z : ¬ (o2 = o ∧ k2 = k) := by rintro ⟨rfl, rfl⟩; rw [hk] at hq; cases hq
    rw [(ne z).1, h6 o2 k2 hq]
    rfl
  · have z : ¬ (o2 = o ∧ k2 = k) := by rintro ⟨rfl, rfl⟩; rw [hk] at hq; cases hq
    rw [(ne z).1, h7 o2 k2 hq]
  · have z : ¬ (o2 = o ∧ ki k2 i = k) := by
      rintro ⟨rfl, q⟩
      exact ki_ne (kf_lt (c := oc o2) (k := k) (by rw [hk]; decide)) q.symm
    rw [(ne z).1, h8 o2 k2 i hq hi]
    rfl
  · have z : ¬ (o2 = o ∧ k2 = k) := by rintro ⟨rfl, rfl⟩; rw [hk] at hq; cases hq
    rw [(ne z).1, h9 o2 k2 hq]
    rfl
  · rw [pe_set_ne (fun q => ha (Or.inr ⟨o, k, q⟩))]
    exact hf a ha

theorem rF.putF {Y : px_Y} {h0 h : pe_H} {U : Um} {o k : Nat} {f : Nat → UInt32} (hU : rF Y h0 U h) (hk : kf (oc o) k = 3) : rF Y h0 (sF U o k f) (pe_set h (Y.2.2 o k) (pa_f Y.1 (ln (oc o) k) f)) := by
  obtain ⟨hy, ⟨h1, h2, h3, h4, h5, h6, h7, h8, h9⟩, hf⟩ := hU
  have ne : ∀ {o2 k2 : Nat}, ¬ (o2 = o ∧ k2 = k) → pe_set h (Y.2.2 o k) (pa_f Y.1 (ln (oc o) k) f) (Y.2.2 o2 k2) = h (Y.2.2 o2 k2) ∧ uF (sF U o k f) o2 k2 = uF U o2 k2 := fun q => ⟨pe_set_ne (fun z => q (hy.aa z)), u_up_ne q⟩
  refine ⟨hy, ⟨fun o2 ho2 => ?_, fun o2 k2 hq => ?_, fun o2 k2 hq => ?_, fun o2 k2 hq => ?_, fun o2 k2 hq => ?_, fun o2 k2 hq => ?_, fun o2 k2 hq => ?_, fun o2 k2 i hq hi => ?_, fun o2 k2 hq => ?_⟩, fun a ha => ?_⟩
  · rw [pe_set_ne (fun q => hy.ad q.symm), h1 o2 ho2]
    rfl
  · have z : ¬ (o2 = o ∧ k2 = k) := by rintro ⟨rfl, rfl⟩; rw [hk] at hq; cases hq
    rw [(ne z).1, h2 o2 k2 hq]
    rfl
  · have z : ¬ (o2 = o ∧ k2 = k) := by rintro ⟨rfl, rfl⟩; rw [hk] at hq; cases hq
    rw [(ne z).1, h3 o2 k2 hq]
    rfl
  · by_cases z : o2 = o ∧ k2 = k
    · obtain ⟨rfl, rfl⟩ := z
      rw [pe_set_eq, uF_sF, if_pos ⟨rfl, rfl⟩]
    · rw [(ne z).1, (ne z).2, h4 o2 k2 hq]
  · have z : ¬ (o2 = o ∧ k2 = k) := by rintro ⟨rfl, rfl⟩; rw [hk] at hq; cases hq
    rw [(ne z).1, h5 o2 k2 hq]
    rfl
  · have z : ¬ (o2 = o ∧ k2 = k) := by rintro ⟨rfl, rfl⟩; rw [hk] at hq; cases hq
    rw [(ne z).1, h6 o2 k2 hq]
    rfl
  · have z : ¬ (o2 = o ∧ k2 = k) := by rintro ⟨rfl, rfl⟩; rw [hk] at hq; cases hq
    rw [(ne z).1, h7 o2 k2 hq]
  · have z : ¬ (o2 = o ∧ ki k2 i = k) := by
      rintro ⟨rfl, q⟩
      exact ki_ne (kf_lt (c := oc o2) (k := k) (by rw [hk]; decide)) q.symm
    rw [(ne z).1, h8 o2 k2 i hq hi]
    rfl
  · have z : ¬ (o2 = o ∧ k2 = k) := by rintro ⟨rfl, rfl⟩; rw [hk] at hq; cases hq
    rw [(ne z).1, h9 o2 k2 hq]
    rfl
  · rw [pe_set_ne (fun q => ha (Or.inr ⟨o, k, q⟩))]
    exact hf a ha

