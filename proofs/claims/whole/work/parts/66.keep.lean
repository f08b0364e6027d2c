/-! blocks of a row -/
def blk (T : Tm) (k : Nat) (lo n : Int) (F : Int → Int) : Tm := fun f i => if f = k ∧ lo ≤ i ∧ i < lo + n then F (i - lo) else T f i
theorem blk_0 {T : Tm} {k : Nat} {lo : Int} {F : Int → Int} : blk T k lo 0 F = T := by
  funext f i
  unfold blk
  rw [if_neg (by omega)]
theorem blk_s {T : Tm} {k : Nat} {lo n : Int} {F : Int → Int} (h : 0 ≤ n) : up (blk T k lo n F) k (lo + n) (F n) = blk T k lo (n + 1) F := by
  funext f i
  unfold up blk
  by_cases c : f = k ∧ i = lo + n
  · rw [if_pos c, if_pos ⟨c.1, by omega, by omega⟩, show i - lo = n by omega]
  · rw [if_neg c]
    by_cases c2 : f = k ∧ lo ≤ i ∧ i < lo + n
    · rw [if_pos c2, if_pos ⟨c2.1, c2.2.1, by omega⟩]
    · rw [if_neg c2, if_neg (fun q => by
        by_cases z : i = lo + n
        · exact c ⟨q.1, z⟩
        · exact c2 ⟨q.1, q.2.1, by omega⟩)]
theorem blk_in {T : Tm} {k : Nat} {lo n i : Int} {F : Int → Int} (h0 : lo ≤ i) (h1 : i < lo + n) : blk T k lo n F k i = F (i - lo) := if_pos ⟨rfl, h0, h1⟩
theorem blk_out {T : Tm} {k : Nat} {lo n i : Int} {F : Int → Int} (h : i < lo ∨ lo + n ≤ i) : blk T k lo n F k i = T k i := if_neg (fun q => by omega)
theorem blk_nf {T : Tm} {k f : Nat} {lo n i : Int} {F : Int → Int} (h : f ≠ k) : blk T k lo n F f i = T f i := if_neg (fun q => h q.1)
/-- two blocks at once -/
theorem blk_2 {T : Tm} {k k2 : Nat} {lo lo2 n : Int} {F G : Int → Int} (h : 0 ≤ n) (hd : k ≠ k2 ∨ lo + n < lo2 ∨ lo2 + n < lo) : up (up (blk (blk T k lo n F) k2 lo2 n G) k (lo + n) (F n)) k2 (lo2 + n) (G n) = blk (blk T k lo (n + 1) F) k2 lo2 (n + 1) G := by
  funext f i
  simp only [up, blk]
  repeat' split
  all_goals first | rfl | omega | (congr 1; omega)
theorem blk_3 {T : Tm} {k k2 k3 : Nat} {lo lo2 lo3 n : Int} {F G H : Int → Int} (h : 0 ≤ n) (hd : k ≠ k2 ∨ lo + n < lo2 ∨ lo2 + n < lo) (hd3 : k ≠ k3) (hd4 : k2 ≠ k3) : up (up (up (blk (blk (blk T k lo n F) k2 lo2 n G) k3 lo3 n H) k (lo + n) (F n)) k2 (lo2 + n) (G n)) k3 (lo3 + n) (H n) = blk (blk (blk T k lo (n + 1) F) k2 lo2 (n + 1) G) k3 lo3 (n + 1) H := by
  funext f i
  simp only [up, blk]
  repeat' split
  all_goals first | rfl | omega | (congr 1; omega)
/-- the reference's past, one more kept -/
def keep1 (T : Tm) (a m : Int) : Tm := blk (blk (blk (blk (blk T 36 a 48 (T 30)) 36 (a + 48) 48 (T 31)) 36 (a + 96) 10 (T 32)) 36 (a + 106) 10 (T 33)) 37 (10 * m) 10 (T 34)
def keep2 (T : Tm) (a m : Int) : Tm := up (up (keep1 T a m) 36 (a + 116) (T 35 0)) 38 0 (m + 1)
def keep0 (T : Tm) : Tm := up (blk (blk T 36 0 819 (fun i => T 36 (i + 117))) 37 0 70 (fun i => T 37 (i + 10))) 38 0 (T 38 0 - 1)
def keepV (T : Tm) : Tm := if T 38 0 = 8 then keep2 (keep0 T) (117 * (T 38 0 - 1)) (T 38 0 - 1) else keep2 T (117 * T 38 0) (T 38 0)
theorem jF_of {E F : UInt32} (h : E = F) : E = jF (F.toNat : Int) := by
  rw [h]
  unfold jF
  simp
theorem jf2 (op : UInt32 → UInt32 → UInt32) {a b c d : UInt32} (h : a = c) (h2 : b = d) : op a b = op c d := by rw [h, h2]
def keepT (T : Tm) : Tm := fun f i => if f = 36 ∨ f = 37 ∨ f = 38 then keepV T f i else T f i
theorem keep1_nf {T : Tm} {a m : Int} {k : Nat} {j : Int} (h : k ≠ 36 ∧ k ≠ 37) : keep1 T a m k j = T k j := by
  unfold keep1
  rw [blk_nf h.2, blk_nf h.1, blk_nf h.1, blk_nf h.1, blk_nf h.1]
theorem keep2_nf {T : Tm} {a m : Int} {k : Nat} {j : Int} (h : k ≠ 36 ∧ k ≠ 37 ∧ k ≠ 38) : keep2 T a m k j = T k j := by
  unfold keep2
  rw [up_nf h.2.2, up_nf h.1, keep1_nf ⟨h.1, h.2.1⟩]
theorem keepV_nf {T : Tm} {k : Nat} {j : Int} (h : k ≠ 36 ∧ k ≠ 37 ∧ k ≠ 38) : keepV T k j = T k j := by
  unfold keepV
  split
  · rw [keep2_nf h]
    unfold keep0
    rw [up_nf h.2.2, blk_nf h.2.1, blk_nf h.1]
  · rw [keep2_nf h]
theorem keepT_e {T : Tm} : keepT T = keepV T := by
  funext f i
  unfold keepT
  by_cases c : f = 36 ∨ f = 37 ∨ f = 38
  · rw [if_pos c]
  · rw [if_neg c, keepV_nf (by omega)]
theorem keep_nf {T : Tm} {k : Nat} {j : Int} (h : k ≠ 36 ∧ k ≠ 37 ∧ k ≠ 38) : keepT T k j = T k j := by
  rw [keepT_e, keepV_nf h]
