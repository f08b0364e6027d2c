/-! own words -/
theorem s_charAt {a : Nat} {i b : Int32} {U : Um} {post : Int32 → Um → Prop} (hi : ¬ i < 0) (hl : i < Int32.ofNat (slens.getD a 0)) (hv : vp_in i (slens.getD a 0)) (hb : (((((sbyts.getD a []).getD (Int32.toNatClampNeg i) 0) &&& 255).toUInt32 % 65536).toInt32) = b) (hn : narrow .char (.int b) = .int b) (h : post b U) : w_J0_charAt_5068e a i U post := by
  unfold w_J0_charAt_5068e w_J0_isLatin1_aae02
  refine br_1 (br_0 (br_1 ?_))
  unfold w_J1_charAt_3b067 w_J0_checkIndex_df160 w_J3_checkIndex_8e157
  intro K _
  refine ⟨fun q => absurd q hi, fun _ => ⟨fun _ => ⟨hv, ?_⟩, fun q => absurd hl q⟩⟩
  rw [hb]
  exact ⟨hn, hn, h⟩
theorem pk_n {a : Nat} {post : Int64 → Um → Prop} {k : Int64 → Um → Prop} {r : Int64 → Int32 → Um → Prop} {w w2 : Int64} {i i2 b : Int32} {U : Um} (h0 : ¬ (Int32.ofNat (slens.getD a 0)) >>> ((0 : Int32) &&& 31) ≤ i) (hi : ¬ i < 0) (hl : i < Int32.ofNat (slens.getD a 0)) (hv : vp_in i (slens.getD a 0)) (hb : (((((sbyts.getD a []).getD (Int32.toNatClampNeg i) 0) &&& 255).toUInt32 % 65536).toInt32) = b) (hn : narrow .char (.int b) = .int b) (hw : ((27 * w) + (Int32.toInt64 b)) - 96 = w2) (h2 : i + 1 = i2) (h : r w2 i2 U) : b_X12_packed_L4 a post k r w i U := by
  unfold b_X12_packed_L4 w_J0_length_8abf5 w_J0_coder_7d493
  refine br_1 ⟨fun q => absurd q h0, fun _ => ?_⟩
  refine s_charAt hi hl hv hb hn ?_
  intro x hx y hy
  rw [hx, hy, hw, h2]
  exact h
theorem pk_e {a : Nat} {post : Int64 → Um → Prop} {k : Int64 → Um → Prop} {r : Int64 → Int32 → Um → Prop} {w : Int64} {i : Int32} {U : Um} (h0 : (Int32.ofNat (slens.getD a 0)) >>> ((0 : Int32) &&& 31) ≤ i) (h : k w U) : b_X12_packed_L4 a post k r w i U := by
  unfold b_X12_packed_L4 w_J0_length_8abf5 w_J0_coder_7d493
  exact br_1 ⟨fun _ => h, fun q => absurd h0 q⟩
theorem pk_0 {U : Um} {post : Int64 → Um → Prop} (h : post 3369766 U) : w_X12_packed 0 U post := by
  unfold w_X12_packed
  refine ⟨6, ?_⟩
  refine pk_n (post := post) (w := 0) (i := 0) (w2 := 6) (i2 := 1) (b := 102) (by decide) (by decide) (by decide) (by unfold vp_in; decide) (by decide) (by decide) (by decide) (by decide) ?_
  refine pk_n (post := post) (w := 6) (i := 1) (w2 := 171) (i2 := 2) (b := 105) (by decide) (by decide) (by decide) (by unfold vp_in; decide) (by decide) (by decide) (by decide) (by decide) ?_
  refine pk_n (post := post) (w := 171) (i := 2) (w2 := 4622) (i2 := 3) (b := 101) (by decide) (by decide) (by decide) (by unfold vp_in; decide) (by decide) (by decide) (by decide) (by decide) ?_
  refine pk_n (post := post) (w := 4622) (i := 3) (w2 := 124806) (i2 := 4) (b := 108) (by decide) (by decide) (by decide) (by unfold vp_in; decide) (by decide) (by decide) (by decide) (by decide) ?_
  refine pk_n (post := post) (w := 124806) (i := 4) (w2 := 3369766) (i2 := 5) (b := 100) (by decide) (by decide) (by decide) (by unfold vp_in; decide) (by decide) (by decide) (by decide) (by decide) ?_
  exact pk_e (post := post) (by decide) h
theorem pk_1 {U : Um} {post : Int64 → Um → Prop} (h : post 365260 U) : w_X12_packed 1 U post := by
  unfold w_X12_packed
  refine ⟨5, ?_⟩
  refine pk_n (post := post) (w := 0) (i := 0) (w2 := 18) (i2 := 1) (b := 114) (by decide) (by decide) (by decide) (by unfold vp_in; decide) (by decide) (by decide) (by decide) (by decide) ?_
  refine pk_n (post := post) (w := 18) (i := 1) (w2 := 501) (i2 := 2) (b := 111) (by decide) (by decide) (by decide) (by unfold vp_in; decide) (by decide) (by decide) (by decide) (by decide) ?_
  refine pk_n (post := post) (w := 501) (i := 2) (w2 := 13528) (i2 := 3) (b := 97) (by decide) (by decide) (by decide) (by unfold vp_in; decide) (by decide) (by decide) (by decide) (by decide) ?_
  refine pk_n (post := post) (w := 13528) (i := 3) (w2 := 365260) (i2 := 4) (b := 100) (by decide) (by decide) (by decide) (by unfold vp_in; decide) (by decide) (by decide) (by decide) (by decide) ?_
  exact pk_e (post := post) (by decide) h
theorem pk_2 {U : Um} {post : Int64 → Um → Prop} (h : post 68366 U) : w_X12_packed 2 U post := by
  unfold w_X12_packed
  refine ⟨5, ?_⟩
  refine pk_n (post := post) (w := 0) (i := 0) (w2 := 3) (i2 := 1) (b := 99) (by decide) (by decide) (by decide) (by unfold vp_in; decide) (by decide) (by decide) (by decide) (by decide) ?_
  refine pk_n (post := post) (w := 3) (i := 1) (w2 := 93) (i2 := 2) (b := 108) (by decide) (by decide) (by decide) (by unfold vp_in; decide) (by decide) (by decide) (by decide) (by decide) ?_
  refine pk_n (post := post) (w := 93) (i := 2) (w2 := 2532) (i2 := 3) (b := 117) (by decide) (by decide) (by decide) (by unfold vp_in; decide) (by decide) (by decide) (by decide) (by decide) ?_
  refine pk_n (post := post) (w := 2532) (i := 3) (w2 := 68366) (i2 := 4) (b := 98) (by decide) (by decide) (by decide) (by unfold vp_in; decide) (by decide) (by decide) (by decide) (by decide) ?_
  exact pk_e (post := post) (by decide) h
theorem pk_3 {U : Um} {post : Int64 → Um → Prop} (h : post 11318 U) : w_X12_packed 3 U post := by
  unfold w_X12_packed
  refine ⟨4, ?_⟩
  refine pk_n (post := post) (w := 0) (i := 0) (w2 := 15) (i2 := 1) (b := 111) (by decide) (by decide) (by decide) (by unfold vp_in; decide) (by decide) (by decide) (by decide) (by decide) ?_
  refine pk_n (post := post) (w := 15) (i := 1) (w2 := 419) (i2 := 2) (b := 110) (by decide) (by decide) (by decide) (by unfold vp_in; decide) (by decide) (by decide) (by decide) (by decide) ?_
  refine pk_n (post := post) (w := 419) (i := 2) (w2 := 11318) (i2 := 3) (b := 101) (by decide) (by decide) (by decide) (by unfold vp_in; decide) (by decide) (by decide) (by decide) (by decide) ?_
  exact pk_e (post := post) (by decide) h
theorem pk_4 {U : Um} {post : Int64 → Um → Prop} (h : post 47 U) : w_X12_packed 4 U post := by
  unfold w_X12_packed
  refine ⟨3, ?_⟩
  refine pk_n (post := post) (w := 0) (i := 0) (w2 := 1) (i2 := 1) (b := 97) (by decide) (by decide) (by decide) (by unfold vp_in; decide) (by decide) (by decide) (by decide) (by decide) ?_
  refine pk_n (post := post) (w := 1) (i := 1) (w2 := 47) (i2 := 2) (b := 116) (by decide) (by decide) (by decide) (by unfold vp_in; decide) (by decide) (by decide) (by decide) (by decide) ?_
  exact pk_e (post := post) (by decide) h
theorem pk_5 {U : Um} {post : Int64 → Um → Prop} (h : post 393 U) : w_X12_packed 5 U post := by
  unfold w_X12_packed
  refine ⟨3, ?_⟩
  refine pk_n (post := post) (w := 0) (i := 0) (w2 := 14) (i2 := 1) (b := 110) (by decide) (by decide) (by decide) (by unfold vp_in; decide) (by decide) (by decide) (by decide) (by decide) ?_
  refine pk_n (post := post) (w := 14) (i := 1) (w2 := 393) (i2 := 2) (b := 111) (by decide) (by decide) (by decide) (by unfold vp_in; decide) (by decide) (by decide) (by decide) (by decide) ?_
  exact pk_e (post := post) (by decide) h
theorem pk_6 {U : Um} {post : Int64 → Um → Prop} (h : post 11103 U) : w_X12_packed 6 U post := by
  unfold w_X12_packed
  refine ⟨4, ?_⟩
  refine pk_n (post := post) (w := 0) (i := 0) (w2 := 15) (i2 := 1) (b := 111) (by decide) (by decide) (by decide) (by unfold vp_in; decide) (by decide) (by decide) (by decide) (by decide) ?_
  refine pk_n (post := post) (w := 15) (i := 1) (w2 := 411) (i2 := 2) (b := 102) (by decide) (by decide) (by decide) (by unfold vp_in; decide) (by decide) (by decide) (by decide) (by decide) ?_
  refine pk_n (post := post) (w := 411) (i := 2) (w2 := 11103) (i2 := 3) (b := 102) (by decide) (by decide) (by decide) (by unfold vp_in; decide) (by decide) (by decide) (by decide) (by decide) ?_
  exact pk_e (post := post) (by decide) h
theorem pk_7 {U : Um} {post : Int64 → Um → Prop} (h : post 555 U) : w_X12_packed 7 U post := by
  unfold w_X12_packed
  refine ⟨3, ?_⟩
  refine pk_n (post := post) (w := 0) (i := 0) (w2 := 20) (i2 := 1) (b := 116) (by decide) (by decide) (by decide) (by unfold vp_in; decide) (by decide) (by decide) (by decide) (by decide) ?_
  refine pk_n (post := post) (w := 20) (i := 1) (w2 := 555) (i2 := 2) (b := 111) (by decide) (by decide) (by decide) (by unfold vp_in; decide) (by decide) (by decide) (by decide) (by decide) ?_
  exact pk_e (post := post) (by decide) h
theorem pk_8 {U : Um} {post : Int64 → Um → Prop} (h : post 138866 U) : w_X12_packed 8 U post := by
  unfold w_X12_packed
  refine ⟨5, ?_⟩
  refine pk_n (post := post) (w := 0) (i := 0) (w2 := 7) (i2 := 1) (b := 103) (by decide) (by decide) (by decide) (by unfold vp_in; decide) (by decide) (by decide) (by decide) (by decide) ?_
  refine pk_n (post := post) (w := 7) (i := 1) (w2 := 190) (i2 := 2) (b := 97) (by decide) (by decide) (by decide) (by unfold vp_in; decide) (by decide) (by decide) (by decide) (by decide) ?_
  refine pk_n (post := post) (w := 190) (i := 2) (w2 := 5143) (i2 := 3) (b := 109) (by decide) (by decide) (by decide) (by unfold vp_in; decide) (by decide) (by decide) (by decide) (by decide) ?_
  refine pk_n (post := post) (w := 5143) (i := 3) (w2 := 138866) (i2 := 4) (b := 101) (by decide) (by decide) (by decide) (by unfold vp_in; decide) (by decide) (by decide) (by decide) (by decide) ?_
  exact pk_e (post := post) (by decide) h
theorem pk_9 {U : Um} {post : Int64 → Um → Prop} (h : post 419 U) : w_X12_packed 9 U post := by
  unfold w_X12_packed
  refine ⟨3, ?_⟩
  refine pk_n (post := post) (w := 0) (i := 0) (w2 := 15) (i2 := 1) (b := 111) (by decide) (by decide) (by decide) (by unfold vp_in; decide) (by decide) (by decide) (by decide) (by decide) ?_
  refine pk_n (post := post) (w := 15) (i := 1) (w2 := 419) (i2 := 2) (b := 110) (by decide) (by decide) (by decide) (by unfold vp_in; decide) (by decide) (by decide) (by decide) (by decide) ?_
  exact pk_e (post := post) (by decide) h
theorem pk_10 {U : Um} {post : Int64 → Um → Prop} (h : post 4797 U) : w_X12_packed 10 U post := by
  unfold w_X12_packed
  refine ⟨4, ?_⟩
  refine pk_n (post := post) (w := 0) (i := 0) (w2 := 6) (i2 := 1) (b := 102) (by decide) (by decide) (by decide) (by unfold vp_in; decide) (by decide) (by decide) (by decide) (by decide) ?_
  refine pk_n (post := post) (w := 6) (i := 1) (w2 := 177) (i2 := 2) (b := 111) (by decide) (by decide) (by decide) (by unfold vp_in; decide) (by decide) (by decide) (by decide) (by decide) ?_
  refine pk_n (post := post) (w := 177) (i := 2) (w2 := 4797) (i2 := 3) (b := 114) (by decide) (by decide) (by decide) (by unfold vp_in; decide) (by decide) (by decide) (by decide) (by decide) ?_
  exact pk_e (post := post) (by decide) h
theorem pk_11 {U : Um} {post : Int64 → Um → Prop} (h : post 4075223 U) : w_X12_packed 11 U post := by
  unfold w_X12_packed
  refine ⟨6, ?_⟩
  refine pk_n (post := post) (w := 0) (i := 0) (w2 := 7) (i2 := 1) (b := 103) (by decide) (by decide) (by decide) (by unfold vp_in; decide) (by decide) (by decide) (by decide) (by decide) ?_
  refine pk_n (post := post) (w := 7) (i := 1) (w2 := 207) (i2 := 2) (b := 114) (by decide) (by decide) (by decide) (by unfold vp_in; decide) (by decide) (by decide) (by decide) (by decide) ?_
  refine pk_n (post := post) (w := 207) (i := 2) (w2 := 5590) (i2 := 3) (b := 97) (by decide) (by decide) (by decide) (by unfold vp_in; decide) (by decide) (by decide) (by decide) (by decide) ?_
  refine pk_n (post := post) (w := 5590) (i := 3) (w2 := 150934) (i2 := 4) (b := 100) (by decide) (by decide) (by decide) (by unfold vp_in; decide) (by decide) (by decide) (by decide) (by decide) ?_
  refine pk_n (post := post) (w := 150934) (i := 4) (w2 := 4075223) (i2 := 5) (b := 101) (by decide) (by decide) (by decide) (by unfold vp_in; decide) (by decide) (by decide) (by decide) (by decide) ?_
  exact pk_e (post := post) (by decide) h
theorem pk_12 {U : Um} {post : Int64 → Um → Prop} (h : post 79 U) : w_X12_packed 12 U post := by
  unfold w_X12_packed
  refine ⟨3, ?_⟩
  refine pk_n (post := post) (w := 0) (i := 0) (w2 := 2) (i2 := 1) (b := 98) (by decide) (by decide) (by decide) (by unfold vp_in; decide) (by decide) (by decide) (by decide) (by decide) ?_
  refine pk_n (post := post) (w := 2) (i := 1) (w2 := 79) (i2 := 2) (b := 121) (by decide) (by decide) (by decide) (by unfold vp_in; decide) (by decide) (by decide) (by decide) (by decide) ?_
  exact pk_e (post := post) (by decide) h
theorem pk_13 {U : Um} {post : Int64 → Um → Prop} (h : post 358472 U) : w_X12_packed 13 U post := by
  unfold w_X12_packed
  refine ⟨5, ?_⟩
  refine pk_n (post := post) (w := 0) (i := 0) (w2 := 18) (i2 := 1) (b := 114) (by decide) (by decide) (by decide) (by unfold vp_in; decide) (by decide) (by decide) (by decide) (by decide) ?_
  refine pk_n (post := post) (w := 18) (i := 1) (w2 := 491) (i2 := 2) (b := 101) (by decide) (by decide) (by decide) (by unfold vp_in; decide) (by decide) (by decide) (by decide) (by decide) ?_
  refine pk_n (post := post) (w := 491) (i := 2) (w2 := 13276) (i2 := 3) (b := 115) (by decide) (by decide) (by decide) (by unfold vp_in; decide) (by decide) (by decide) (by decide) (by decide) ?_
  refine pk_n (post := post) (w := 13276) (i := 3) (w2 := 358472) (i2 := 4) (b := 116) (by decide) (by decide) (by decide) (by unfold vp_in; decide) (by decide) (by decide) (by decide) (by decide) ?_
  exact pk_e (post := post) (by decide) h
theorem pk_14 {U : Um} {post : Int64 → Um → Prop} (h : post 267347 U) : w_X12_packed 14 U post := by
  unfold w_X12_packed
  refine ⟨5, ?_⟩
  refine pk_n (post := post) (w := 0) (i := 0) (w2 := 13) (i2 := 1) (b := 109) (by decide) (by decide) (by decide) (by unfold vp_in; decide) (by decide) (by decide) (by decide) (by decide) ?_
  refine pk_n (post := post) (w := 13) (i := 1) (w2 := 366) (i2 := 2) (b := 111) (by decide) (by decide) (by decide) (by unfold vp_in; decide) (by decide) (by decide) (by decide) (by decide) ?_
  refine pk_n (post := post) (w := 366) (i := 2) (w2 := 9901) (i2 := 3) (b := 115) (by decide) (by decide) (by decide) (by unfold vp_in; decide) (by decide) (by decide) (by decide) (by decide) ?_
  refine pk_n (post := post) (w := 9901) (i := 3) (w2 := 267347) (i2 := 4) (b := 116) (by decide) (by decide) (by decide) (by unfold vp_in; decide) (by decide) (by decide) (by decide) (by decide) ?_
  exact pk_e (post := post) (by decide) h
theorem pk_15 {U : Um} {post : Int64 → Um → Prop} (h : post 4514 U) : w_X12_packed 15 U post := by
  unfold w_X12_packed
  refine ⟨4, ?_⟩
  refine pk_n (post := post) (w := 0) (i := 0) (w2 := 6) (i2 := 1) (b := 102) (by decide) (by decide) (by decide) (by unfold vp_in; decide) (by decide) (by decide) (by decide) (by decide) ?_
  refine pk_n (post := post) (w := 6) (i := 1) (w2 := 167) (i2 := 2) (b := 101) (by decide) (by decide) (by decide) (by unfold vp_in; decide) (by decide) (by decide) (by decide) (by decide) ?_
  refine pk_n (post := post) (w := 167) (i := 2) (w2 := 4514) (i2 := 3) (b := 101) (by decide) (by decide) (by decide) (by unfold vp_in; decide) (by decide) (by decide) (by decide) (by decide) ?_
  exact pk_e (post := post) (by decide) h
theorem pk_16 {U : Um} {post : Int64 → Um → Prop} (h : post 279346 U) : w_X12_packed 16 U post := by
  unfold w_X12_packed
  refine ⟨5, ?_⟩
  refine pk_n (post := post) (w := 0) (i := 0) (w2 := 14) (i2 := 1) (b := 110) (by decide) (by decide) (by decide) (by unfold vp_in; decide) (by decide) (by decide) (by decide) (by decide) ?_
  refine pk_n (post := post) (w := 14) (i := 1) (w2 := 383) (i2 := 2) (b := 101) (by decide) (by decide) (by decide) (by unfold vp_in; decide) (by decide) (by decide) (by decide) (by decide) ?_
  refine pk_n (post := post) (w := 383) (i := 2) (w2 := 10346) (i2 := 3) (b := 101) (by decide) (by decide) (by decide) (by unfold vp_in; decide) (by decide) (by decide) (by decide) (by decide) ?_
  refine pk_n (post := post) (w := 10346) (i := 3) (w2 := 279346) (i2 := 4) (b := 100) (by decide) (by decide) (by decide) (by unfold vp_in; decide) (by decide) (by decide) (by decide) (by decide) ?_
  exact pk_e (post := post) (by decide) h
theorem pk_17 {U : Um} {post : Int64 → Um → Prop} (h : post 377669 U) : w_X12_packed 17 U post := by
  unfold w_X12_packed
  refine ⟨5, ?_⟩
  refine pk_n (post := post) (w := 0) (i := 0) (w2 := 19) (i2 := 1) (b := 115) (by decide) (by decide) (by decide) (by unfold vp_in; decide) (by decide) (by decide) (by decide) (by decide) ?_
  refine pk_n (post := post) (w := 19) (i := 1) (w2 := 518) (i2 := 2) (b := 101) (by decide) (by decide) (by decide) (by unfold vp_in; decide) (by decide) (by decide) (by decide) (by decide) ?_
  refine pk_n (post := post) (w := 518) (i := 2) (w2 := 13987) (i2 := 3) (b := 97) (by decide) (by decide) (by decide) (by unfold vp_in; decide) (by decide) (by decide) (by decide) (by decide) ?_
  refine pk_n (post := post) (w := 13987) (i := 3) (w2 := 377669) (i2 := 4) (b := 116) (by decide) (by decide) (by decide) (by unfold vp_in; decide) (by decide) (by decide) (by decide) (by decide) ?_
  exact pk_e (post := post) (by decide) h
theorem pk_18 {U : Um} {post : Int64 → Um → Prop} (h : post 6411385 U) : w_X12_packed 18 U post := by
  unfold w_X12_packed
  refine ⟨6, ?_⟩
  refine pk_n (post := post) (w := 0) (i := 0) (w2 := 12) (i2 := 1) (b := 108) (by decide) (by decide) (by decide) (by unfold vp_in; decide) (by decide) (by decide) (by decide) (by decide) ?_
  refine pk_n (post := post) (w := 12) (i := 1) (w2 := 325) (i2 := 2) (b := 97) (by decide) (by decide) (by decide) (by unfold vp_in; decide) (by decide) (by decide) (by decide) (by decide) ?_
  refine pk_n (post := post) (w := 325) (i := 2) (w2 := 8794) (i2 := 3) (b := 115) (by decide) (by decide) (by decide) (by unfold vp_in; decide) (by decide) (by decide) (by decide) (by decide) ?_
  refine pk_n (post := post) (w := 8794) (i := 3) (w2 := 237458) (i2 := 4) (b := 116) (by decide) (by decide) (by decide) (by unfold vp_in; decide) (by decide) (by decide) (by decide) (by decide) ?_
  refine pk_n (post := post) (w := 237458) (i := 4) (w2 := 6411385) (i2 := 5) (b := 115) (by decide) (by decide) (by decide) (by unfold vp_in; decide) (by decide) (by decide) (by decide) (by decide) ?_
  exact pk_e (post := post) (by decide) h
theorem pk_19 {U : Um} {post : Int64 → Um → Prop} (h : post 2968 U) : w_X12_packed 19 U post := by
  unfold w_X12_packed
  refine ⟨4, ?_⟩
  refine pk_n (post := post) (w := 0) (i := 0) (w2 := 4) (i2 := 1) (b := 100) (by decide) (by decide) (by decide) (by unfold vp_in; decide) (by decide) (by decide) (by decide) (by decide) ?_
  refine pk_n (post := post) (w := 4) (i := 1) (w2 := 109) (i2 := 2) (b := 97) (by decide) (by decide) (by decide) (by unfold vp_in; decide) (by decide) (by decide) (by decide) (by decide) ?_
  refine pk_n (post := post) (w := 109) (i := 2) (w2 := 2968) (i2 := 3) (b := 121) (by decide) (by decide) (by decide) (by unfold vp_in; decide) (by decide) (by decide) (by decide) (by decide) ?_
  exact pk_e (post := post) (by decide) h
theorem pk_20 {U : Um} {post : Int64 → Um → Prop} (h : post 31499758 U) : w_X12_packed 20 U post := by
  unfold w_X12_packed
  refine ⟨7, ?_⟩
  refine pk_n (post := post) (w := 0) (i := 0) (w2 := 2) (i2 := 1) (b := 98) (by decide) (by decide) (by decide) (by unfold vp_in; decide) (by decide) (by decide) (by decide) (by decide) ?_
  refine pk_n (post := post) (w := 2) (i := 1) (w2 := 59) (i2 := 2) (b := 101) (by decide) (by decide) (by decide) (by unfold vp_in; decide) (by decide) (by decide) (by decide) (by decide) ?_
  refine pk_n (post := post) (w := 59) (i := 2) (w2 := 1600) (i2 := 3) (b := 103) (by decide) (by decide) (by decide) (by unfold vp_in; decide) (by decide) (by decide) (by decide) (by decide) ?_
  refine pk_n (post := post) (w := 1600) (i := 3) (w2 := 43209) (i2 := 4) (b := 105) (by decide) (by decide) (by decide) (by unfold vp_in; decide) (by decide) (by decide) (by decide) (by decide) ?_
  refine pk_n (post := post) (w := 43209) (i := 4) (w2 := 1166657) (i2 := 5) (b := 110) (by decide) (by decide) (by decide) (by unfold vp_in; decide) (by decide) (by decide) (by decide) (by decide) ?_
  refine pk_n (post := post) (w := 1166657) (i := 5) (w2 := 31499758) (i2 := 6) (b := 115) (by decide) (by decide) (by decide) (by unfold vp_in; decide) (by decide) (by decide) (by decide) (by decide) ?_
  exact pk_e (post := post) (by decide) h
theorem pk_21 {U : Um} {post : Int64 → Um → Prop} (h : post 16819 U) : w_X12_packed 21 U post := by
  unfold w_X12_packed
  refine ⟨4, ?_⟩
  refine pk_n (post := post) (w := 0) (i := 0) (w2 := 23) (i2 := 1) (b := 119) (by decide) (by decide) (by decide) (by unfold vp_in; decide) (by decide) (by decide) (by decide) (by decide) ?_
  refine pk_n (post := post) (w := 23) (i := 1) (w2 := 622) (i2 := 2) (b := 97) (by decide) (by decide) (by decide) (by unfold vp_in; decide) (by decide) (by decide) (by decide) (by decide) ?_
  refine pk_n (post := post) (w := 622) (i := 2) (w2 := 16819) (i2 := 3) (b := 121) (by decide) (by decide) (by decide) (by unfold vp_in; decide) (by decide) (by decide) (by decide) (by decide) ?_
  exact pk_e (post := post) (by decide) h
theorem pk_22 {U : Um} {post : Int64 → Um → Prop} (h : post 129532 U) : w_X12_packed 22 U post := by
  unfold w_X12_packed
  refine ⟨5, ?_⟩
  refine pk_n (post := post) (w := 0) (i := 0) (w2 := 6) (i2 := 1) (b := 102) (by decide) (by decide) (by decide) (by unfold vp_in; decide) (by decide) (by decide) (by decide) (by decide) ?_
  refine pk_n (post := post) (w := 6) (i := 1) (w2 := 177) (i2 := 2) (b := 111) (by decide) (by decide) (by decide) (by unfold vp_in; decide) (by decide) (by decide) (by decide) (by decide) ?_
  refine pk_n (post := post) (w := 177) (i := 2) (w2 := 4797) (i2 := 3) (b := 114) (by decide) (by decide) (by decide) (by unfold vp_in; decide) (by decide) (by decide) (by decide) (by decide) ?_
  refine pk_n (post := post) (w := 4797) (i := 3) (w2 := 129532) (i2 := 4) (b := 109) (by decide) (by decide) (by decide) (by unfold vp_in; decide) (by decide) (by decide) (by decide) (by decide) ?_
  exact pk_e (post := post) (by decide) h
def ownL : List Int := [3369766, 365260, 68366, 11318, 47, 393, 11103, 555, 138866, 419, 4797, 4075223, 79, 358472, 267347, 4514, 279346, 377669, 6411385, 2968, 31499758, 16819, 129532]
theorem pk_all {a : Nat} (ha : a < 23) {U : Um} {post : Int64 → Um → Prop} (h : post (jL (ownL.getD a 0)) U) : w_X12_packed a U post := by
  have : a = 0 ∨ a = 1 ∨ a = 2 ∨ a = 3 ∨ a = 4 ∨ a = 5 ∨ a = 6 ∨ a = 7 ∨ a = 8 ∨ a = 9 ∨ a = 10 ∨ a = 11 ∨ a = 12 ∨ a = 13 ∨ a = 14 ∨ a = 15 ∨ a = 16 ∨ a = 17 ∨ a = 18 ∨ a = 19 ∨ a = 20 ∨ a = 21 ∨ a = 22 := by omega
  rcases this with q | q | q | q | q | q | q | q | q | q | q | q | q | q | q | q | q | q | q | q | q | q | q
  · subst q; exact pk_0 h
  · subst q; exact pk_1 h
  · subst q; exact pk_2 h
  · subst q; exact pk_3 h
  · subst q; exact pk_4 h
  · subst q; exact pk_5 h
  · subst q; exact pk_6 h
  · subst q; exact pk_7 h
  · subst q; exact pk_8 h
  · subst q; exact pk_9 h
  · subst q; exact pk_10 h
  · subst q; exact pk_11 h
  · subst q; exact pk_12 h
  · subst q; exact pk_13 h
  · subst q; exact pk_14 h
  · subst q; exact pk_15 h
  · subst q; exact pk_16 h
  · subst q; exact pk_17 h
  · subst q; exact pk_18 h
  · subst q; exact pk_19 h
  · subst q; exact pk_20 h
  · subst q; exact pk_21 h
  · subst q; exact pk_22 h
