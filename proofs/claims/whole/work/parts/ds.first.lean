/-! the first memory: what stands at each place -/
def sE (e e' : va_E) : Prop := ∀ (D : va_G) (a : Nat) (H : Heap), va_at D vwCl (a, e) H → va_at D vwCl (a, e') H
theorem arrV_same {c : ClassId} {n : Nat} {f g : Nat → Value} (h : ∀ i, i < n → f i = g i) : arrV c n f = arrV c n g := by
  unfold arrV
  congr 2
  funext j
  exact h j.1 j.2
theorem sE_arr {c : ClassId} {n : Nat} {x y : (Nat → Int32) ⊕ (Nat → Int64) ⊕ (Nat → UInt32) ⊕ (Nat → UInt64) ⊕ (Nat → Option Nat)} (h : vp_cell c (n, x) = vp_cell c (n, y)) : sE (.inl (c, n, x)) (.inl (c, n, y)) := fun D a H q => by
  show H[a]? = some (vp_cell c (n, y))
  rw [← h]
  exact q
theorem sE_po {c N : Nat} {F F' : Nat → Value} (h : ∀ k, k < N → F k = F' k) : sE (po c N F) (po c N F') := fun D a H q => by
  have e : (List.range N).map F = (List.range N).map F' := List.map_congr_left (fun k hk => h k (List.mem_range.mp hk))
  unfold po
  rw [← e]
  exact q
def I0m (o k : Nat) : Int32 := if o = 2 then (if k = 3 then -1 else 0) else if o = 4 ∨ o = 5 then (if k = 8 then 10 else if k = 9 then 3 else 0) else if o = 55 then (if k = 19 ∨ k = 35 then -1 else 0) else if 42 ≤ o ∧ o < 52 then (if k = 1 then -1 else 0) else 0
def R0m (o k : Nat) : Nat := if o = 0 then (if k = 0 then 1 else if k = 1 then 2 else if k = 2 then 4 else if k = 3 then 5 else if k = 4 then 42 else if k = 5 then 43 else 3) else if o = 2 then (if k = 0 then 1 else 99) else if o = 3 then 42 else if o = 4 then (if k = 10 then 6 else 8) else if o = 5 then (if k = 10 then 7 else 9) else 4
def A0m (o k : Nat) : Nat → Int32 := if o = 55 then (if k = 30 ∨ k = 31 then rw_ 0 (-1) 48 else if k = 11 then (fun i => if i = 4 ∨ i = 11 then 10 else if i = 5 ∨ i = 12 then 3 else 0) else fun _ => 0) else if 42 ≤ o ∧ o < 52 ∧ (k = 2 ∨ k = 3) then rw_ 0 (-1) 48 else fun _ => 0
def F0m (o k : Nat) : Nat → UInt32 := if 42 ≤ o ∧ o < 52 ∧ k = 5 then rw_ 0 1112014848 10 else fun _ => 0
def AR0m (o k i : Nat) : Nat := if o = 0 then (if k = 7 then 44 + i else 52 + i) else if o = 4 then 10 + i else 26 + i
def U0 : Um := (I0m, fun _ _ => 0, R0m, A0m, fun _ _ _ => 0, F0m, AR0m)
def tZ (G : px_D) (b : Nat) : Nat → Option va_E := tu (g_X12_init G b (tu (g_X11_init G b (tu (fun _ => none) 0 (po 9 11 (dF 9))) 0 1) 205 (po 10 54 (dF 10))) 205 206) 239 (pa_l G 1 (fun _ => 0))
def tzE (G : px_D) (b P o k' : Nat) : Prop := ∃ e, tZ G b P = some e ∧ sE e (eU (Y0 G b) U0 o k')
section TZ
variable {G : px_D} {b P o k n : Nat}
theorem tz_i {f : Nat → Int32} (h : tZ G b P = some (pa_i G n f)) (hk : kf (oc o) k = 1 ∧ k < 100 ∧ ln (oc o) k = n) (hf : ∀ i, i < n → f i = uA U0 o k i) : tzE G b P o (k + 1) := by
  refine ⟨_, h, ?_⟩
  show sE _ (eR (Y0 G b) U0 o k)
  unfold eR
  rw [if_pos hk.2.1, if_pos hk.1, hk.2.2]
  exact sE_arr (arrV_same (fun i hi => congrArg Value.int (hf i hi)))
theorem tz_l {f : Nat → Int64} (h : tZ G b P = some (pa_l G n f)) (hk : kf (oc o) k = 2 ∧ k < 100 ∧ ln (oc o) k = n) (hf : ∀ i, i < n → f i = uJ U0 o k i) : tzE G b P o (k + 1) := by
  refine ⟨_, h, ?_⟩
  show sE _ (eR (Y0 G b) U0 o k)
  unfold eR
  rw [if_pos hk.2.1, if_neg (by omega), if_pos hk.1, hk.2.2]
  exact sE_arr (arrV_same (fun i hi => congrArg Value.long (hf i hi)))
theorem tz_f {f : Nat → UInt32} (h : tZ G b P = some (pa_f G n f)) (hk : kf (oc o) k = 3 ∧ k < 100 ∧ ln (oc o) k = n) (hf : ∀ i, i < n → f i = uF U0 o k i) : tzE G b P o (k + 1) := by
  refine ⟨_, h, ?_⟩
  show sE _ (eR (Y0 G b) U0 o k)
  unfold eR
  rw [if_pos hk.2.1, if_neg (by omega), if_neg (by omega), if_pos hk.1, hk.2.2]
  exact sE_arr (arrV_same (fun i hi => congrArg Value.float (hf i hi)))
theorem tz_b {f : Nat → Int32} (h : tZ G b P = some (pa_b G n f)) (hk : kf (oc o) k = 4 ∧ k < 100 ∧ ln (oc o) k = n) (hf : ∀ i, i < n → f i = uA U0 o k i) : tzE G b P o (k + 1) := by
  refine ⟨_, h, ?_⟩
  show sE _ (eR (Y0 G b) U0 o k)
  unfold eR
  rw [if_pos hk.2.1, if_neg (by omega), if_neg (by omega), if_neg (by omega), if_pos hk.1, hk.2.2]
  exact sE_arr (arrV_same (fun i hi => congrArg Value.int (hf i hi)))
theorem tz_z {f : Nat → Int32} (h : tZ G b P = some (pa_z G n f)) (hk : kf (oc o) k = 5 ∧ k < 100 ∧ ln (oc o) k = n) (hf : ∀ i, i < n → f i = uA U0 o k i) : tzE G b P o (k + 1) := by
  refine ⟨_, h, ?_⟩
  show sE _ (eR (Y0 G b) U0 o k)
  unfold eR
  rw [if_pos hk.2.1, if_neg (by omega), if_neg (by omega), if_neg (by omega), if_neg (by omega), if_pos hk.1, hk.2.2]
  exact sE_arr (arrV_same (fun i hi => congrArg Value.int (hf i hi)))
/-- rows of rows -/
theorem tz_m {f : Nat → Option Nat} (h : tZ G b P = some (pa_r G 5 n f)) (hk : kf (oc o) k = 6 ∧ k < 100 ∧ ln (oc o) k = n) (hf : ∀ i, i < n → f i = some (b + pl0 o (ki k i + 1))) : tzE G b P o (k + 1) := by
  refine ⟨_, h, ?_⟩
  show sE _ (eR (Y0 G b) U0 o k)
  unfold eR
  rw [if_pos hk.2.1, if_neg (by omega), if_neg (by omega), if_neg (by omega), if_neg (by omega), if_neg (by omega), if_pos hk.1, hk.2.2]
  exact sE_arr (arrV_same (fun i hi => congrArg va_rf (hf i hi)))
/-- rows of objects -/
theorem tz_r {f : Nat → Option Nat} {t : Nat} (h : tZ G b P = some (pa_r G t n f)) (hk : kf (oc o) k = 8 ∧ k < 100 ∧ ln (oc o) k = n ∧ rt (oc o) k = t) (hf : ∀ i, i < n → f i = some (b + pl0 (AR0m o k i) 0)) : tzE G b P o (k + 1) := by
  refine ⟨_, h, ?_⟩
  show sE _ (eR (Y0 G b) U0 o k)
  unfold eR
  rw [if_pos hk.2.1, if_neg (by omega), if_neg (by omega), if_neg (by omega), if_neg (by omega), if_neg (by omega), if_neg (by omega), hk.2.2.1, hk.2.2.2]
  exact sE_arr (arrV_same (fun i hi => congrArg va_rf (hf i hi)))
/-- inner rows -/
theorem tz_n {f : Nat → Int32} (h : tZ G b P = some (pa_i G n f)) (hk : ¬ k < 100 ∧ ln2 (oc o) (k % 100) = n) (hf : ∀ i, i < n → f i = uA U0 o k i) : tzE G b P o (k + 1) := by
  refine ⟨_, h, ?_⟩
  show sE _ (eR (Y0 G b) U0 o k)
  unfold eR
  rw [if_neg hk.1, hk.2]
  exact sE_arr (arrV_same (fun i hi => congrArg Value.int (hf i hi)))
/-- objects -/
theorem tz_o {c N : Nat} {F : Nat → Value} (h : tZ G b P = some (po c N F)) (hk : oc o = c ∧ on c = N) (hf : ∀ k, k < N → F k = oF (Y0 G b) U0 o k) : tzE G b P o 0 := by
  refine ⟨_, h, ?_⟩
  show sE _ (po (oc o) (on (oc o)) (oF (Y0 G b) U0 o))
  rw [hk.1, hk.2]
  exact sE_po hf
end TZ
theorem pz_0 : pl0 0 0 = 0 := by decide +kernel
theorem pz_1 : pl0 1 0 = 1 := by decide +kernel
theorem pz_2 : pl0 1 1 = 2 := by decide +kernel
theorem pz_3 : pl0 2 0 = 3 := by decide +kernel
theorem pz_4 : pl0 4 0 = 4 := by decide +kernel
theorem pz_5 : pl0 4 1 = 5 := by decide +kernel
theorem pz_6 : pl0 4 101 = 6 := by decide +kernel
theorem pz_7 : pl0 4 201 = 7 := by decide +kernel
theorem pz_8 : pl0 4 301 = 8 := by decide +kernel
theorem pz_9 : pl0 4 2 = 9 := by decide +kernel
theorem pz_10 : pl0 4 3 = 10 := by decide +kernel
theorem pz_11 : pl0 4 4 = 11 := by decide +kernel
theorem pz_12 : pl0 4 5 = 12 := by decide +kernel
theorem pz_13 : pl0 4 6 = 13 := by decide +kernel
theorem pz_14 : pl0 4 7 = 14 := by decide +kernel
theorem pz_15 : pl0 10 0 = 15 := by decide +kernel
theorem pz_16 : pl0 11 0 = 16 := by decide +kernel
theorem pz_17 : pl0 12 0 = 17 := by decide +kernel
theorem pz_18 : pl0 13 0 = 18 := by decide +kernel
theorem pz_19 : pl0 14 0 = 19 := by decide +kernel
theorem pz_20 : pl0 15 0 = 20 := by decide +kernel
theorem pz_21 : pl0 16 0 = 21 := by decide +kernel
theorem pz_22 : pl0 17 0 = 22 := by decide +kernel
theorem pz_23 : pl0 18 0 = 23 := by decide +kernel
theorem pz_24 : pl0 19 0 = 24 := by decide +kernel
theorem pz_25 : pl0 20 0 = 25 := by decide +kernel
theorem pz_26 : pl0 21 0 = 26 := by decide +kernel
theorem pz_27 : pl0 22 0 = 27 := by decide +kernel
theorem pz_28 : pl0 23 0 = 28 := by decide +kernel
theorem pz_29 : pl0 24 0 = 29 := by decide +kernel
theorem pz_30 : pl0 25 0 = 30 := by decide +kernel
theorem pz_31 : pl0 6 0 = 31 := by decide +kernel
theorem pz_32 : pl0 6 2 = 32 := by decide +kernel
theorem pz_33 : pl0 6 102 = 33 := by decide +kernel
theorem pz_34 : pl0 6 202 = 34 := by decide +kernel
theorem pz_35 : pl0 6 302 = 35 := by decide +kernel
theorem pz_36 : pl0 6 402 = 36 := by decide +kernel
theorem pz_37 : pl0 6 502 = 37 := by decide +kernel
theorem pz_38 : pl0 6 602 = 38 := by decide +kernel
theorem pz_39 : pl0 6 3 = 39 := by decide +kernel
theorem pz_40 : pl0 6 103 = 40 := by decide +kernel
theorem pz_41 : pl0 6 203 = 41 := by decide +kernel
theorem pz_42 : pl0 6 303 = 42 := by decide +kernel
theorem pz_43 : pl0 6 403 = 43 := by decide +kernel
theorem pz_44 : pl0 6 503 = 44 := by decide +kernel
theorem pz_45 : pl0 6 603 = 45 := by decide +kernel
theorem pz_46 : pl0 8 0 = 46 := by decide +kernel
theorem pz_47 : pl0 8 1 = 47 := by decide +kernel
theorem pz_48 : pl0 8 3 = 48 := by decide +kernel
theorem pz_49 : pl0 8 4 = 49 := by decide +kernel
theorem pz_50 : pl0 4 13 = 50 := by decide +kernel
theorem pz_51 : pl0 4 14 = 51 := by decide +kernel
theorem pz_52 : pl0 4 15 = 52 := by decide +kernel
theorem pz_53 : pl0 5 0 = 53 := by decide +kernel
theorem pz_54 : pl0 5 1 = 54 := by decide +kernel
theorem pz_55 : pl0 5 101 = 55 := by decide +kernel
theorem pz_56 : pl0 5 201 = 56 := by decide +kernel
theorem pz_57 : pl0 5 301 = 57 := by decide +kernel
theorem pz_58 : pl0 5 2 = 58 := by decide +kernel
theorem pz_59 : pl0 5 3 = 59 := by decide +kernel
theorem pz_60 : pl0 5 4 = 60 := by decide +kernel
theorem pz_61 : pl0 5 5 = 61 := by decide +kernel
theorem pz_62 : pl0 5 6 = 62 := by decide +kernel
theorem pz_63 : pl0 5 7 = 63 := by decide +kernel
theorem pz_64 : pl0 26 0 = 64 := by decide +kernel
theorem pz_65 : pl0 27 0 = 65 := by decide +kernel
theorem pz_66 : pl0 28 0 = 66 := by decide +kernel
theorem pz_67 : pl0 29 0 = 67 := by decide +kernel
theorem pz_68 : pl0 30 0 = 68 := by decide +kernel
theorem pz_69 : pl0 31 0 = 69 := by decide +kernel
theorem pz_70 : pl0 32 0 = 70 := by decide +kernel
theorem pz_71 : pl0 33 0 = 71 := by decide +kernel
theorem pz_72 : pl0 34 0 = 72 := by decide +kernel
theorem pz_73 : pl0 35 0 = 73 := by decide +kernel
theorem pz_74 : pl0 36 0 = 74 := by decide +kernel
theorem pz_75 : pl0 37 0 = 75 := by decide +kernel
theorem pz_76 : pl0 38 0 = 76 := by decide +kernel
theorem pz_77 : pl0 39 0 = 77 := by decide +kernel
theorem pz_78 : pl0 40 0 = 78 := by decide +kernel
theorem pz_79 : pl0 41 0 = 79 := by decide +kernel
theorem pz_80 : pl0 7 0 = 80 := by decide +kernel
theorem pz_81 : pl0 7 2 = 81 := by decide +kernel
theorem pz_82 : pl0 7 102 = 82 := by decide +kernel
theorem pz_83 : pl0 7 202 = 83 := by decide +kernel
theorem pz_84 : pl0 7 302 = 84 := by decide +kernel
theorem pz_85 : pl0 7 402 = 85 := by decide +kernel
theorem pz_86 : pl0 7 502 = 86 := by decide +kernel
theorem pz_87 : pl0 7 602 = 87 := by decide +kernel
theorem pz_88 : pl0 7 3 = 88 := by decide +kernel
theorem pz_89 : pl0 7 103 = 89 := by decide +kernel
theorem pz_90 : pl0 7 203 = 90 := by decide +kernel
theorem pz_91 : pl0 7 303 = 91 := by decide +kernel
theorem pz_92 : pl0 7 403 = 92 := by decide +kernel
theorem pz_93 : pl0 7 503 = 93 := by decide +kernel
theorem pz_94 : pl0 7 603 = 94 := by decide +kernel
theorem pz_95 : pl0 9 0 = 95 := by decide +kernel
theorem pz_96 : pl0 9 1 = 96 := by decide +kernel
theorem pz_97 : pl0 9 3 = 97 := by decide +kernel
theorem pz_98 : pl0 9 4 = 98 := by decide +kernel
theorem pz_99 : pl0 5 13 = 99 := by decide +kernel
theorem pz_100 : pl0 5 14 = 100 := by decide +kernel
theorem pz_101 : pl0 5 15 = 101 := by decide +kernel
theorem pz_102 : pl0 42 0 = 102 := by decide +kernel
theorem pz_103 : pl0 42 3 = 103 := by decide +kernel
theorem pz_104 : pl0 42 4 = 104 := by decide +kernel
theorem pz_105 : pl0 42 5 = 105 := by decide +kernel
theorem pz_106 : pl0 42 6 = 106 := by decide +kernel
theorem pz_107 : pl0 42 7 = 107 := by decide +kernel
theorem pz_108 : pl0 42 8 = 108 := by decide +kernel
theorem pz_109 : pl0 42 9 = 109 := by decide +kernel
theorem pz_110 : pl0 42 10 = 110 := by decide +kernel
theorem pz_111 : pl0 43 0 = 111 := by decide +kernel
theorem pz_112 : pl0 43 3 = 112 := by decide +kernel
theorem pz_113 : pl0 43 4 = 113 := by decide +kernel
theorem pz_114 : pl0 43 5 = 114 := by decide +kernel
theorem pz_115 : pl0 43 6 = 115 := by decide +kernel
theorem pz_116 : pl0 43 7 = 116 := by decide +kernel
theorem pz_117 : pl0 43 8 = 117 := by decide +kernel
theorem pz_118 : pl0 43 9 = 118 := by decide +kernel
theorem pz_119 : pl0 43 10 = 119 := by decide +kernel
theorem pz_120 : pl0 3 0 = 120 := by decide +kernel
theorem pz_121 : pl0 3 2 = 121 := by decide +kernel
theorem pz_122 : pl0 3 3 = 122 := by decide +kernel
theorem pz_123 : pl0 3 4 = 123 := by decide +kernel
theorem pz_124 : pl0 3 7 = 124 := by decide +kernel
theorem pz_125 : pl0 0 8 = 125 := by decide +kernel
theorem pz_126 : pl0 44 0 = 126 := by decide +kernel
theorem pz_127 : pl0 44 3 = 127 := by decide +kernel
theorem pz_128 : pl0 44 4 = 128 := by decide +kernel
theorem pz_129 : pl0 44 5 = 129 := by decide +kernel
theorem pz_130 : pl0 44 6 = 130 := by decide +kernel
theorem pz_131 : pl0 44 7 = 131 := by decide +kernel
theorem pz_132 : pl0 44 8 = 132 := by decide +kernel
theorem pz_133 : pl0 44 9 = 133 := by decide +kernel
theorem pz_134 : pl0 44 10 = 134 := by decide +kernel
theorem pz_135 : pl0 45 0 = 135 := by decide +kernel
theorem pz_136 : pl0 45 3 = 136 := by decide +kernel
theorem pz_137 : pl0 45 4 = 137 := by decide +kernel
theorem pz_138 : pl0 45 5 = 138 := by decide +kernel
theorem pz_139 : pl0 45 6 = 139 := by decide +kernel
theorem pz_140 : pl0 45 7 = 140 := by decide +kernel
theorem pz_141 : pl0 45 8 = 141 := by decide +kernel
theorem pz_142 : pl0 45 9 = 142 := by decide +kernel
theorem pz_143 : pl0 45 10 = 143 := by decide +kernel
theorem pz_144 : pl0 46 0 = 144 := by decide +kernel
theorem pz_145 : pl0 46 3 = 145 := by decide +kernel
theorem pz_146 : pl0 46 4 = 146 := by decide +kernel
theorem pz_147 : pl0 46 5 = 147 := by decide +kernel
theorem pz_148 : pl0 46 6 = 148 := by decide +kernel
theorem pz_149 : pl0 46 7 = 149 := by decide +kernel
theorem pz_150 : pl0 46 8 = 150 := by decide +kernel
theorem pz_151 : pl0 46 9 = 151 := by decide +kernel
theorem pz_152 : pl0 46 10 = 152 := by decide +kernel
theorem pz_153 : pl0 47 0 = 153 := by decide +kernel
theorem pz_154 : pl0 47 3 = 154 := by decide +kernel
theorem pz_155 : pl0 47 4 = 155 := by decide +kernel
theorem pz_156 : pl0 47 5 = 156 := by decide +kernel
theorem pz_157 : pl0 47 6 = 157 := by decide +kernel
theorem pz_158 : pl0 47 7 = 158 := by decide +kernel
theorem pz_159 : pl0 47 8 = 159 := by decide +kernel
theorem pz_160 : pl0 47 9 = 160 := by decide +kernel
theorem pz_161 : pl0 47 10 = 161 := by decide +kernel
theorem pz_162 : pl0 48 0 = 162 := by decide +kernel
theorem pz_163 : pl0 48 3 = 163 := by decide +kernel
theorem pz_164 : pl0 48 4 = 164 := by decide +kernel
theorem pz_165 : pl0 48 5 = 165 := by decide +kernel
theorem pz_166 : pl0 48 6 = 166 := by decide +kernel
theorem pz_167 : pl0 48 7 = 167 := by decide +kernel
theorem pz_168 : pl0 48 8 = 168 := by decide +kernel
theorem pz_169 : pl0 48 9 = 169 := by decide +kernel
theorem pz_170 : pl0 48 10 = 170 := by decide +kernel
theorem pz_171 : pl0 49 0 = 171 := by decide +kernel
theorem pz_172 : pl0 49 3 = 172 := by decide +kernel
theorem pz_173 : pl0 49 4 = 173 := by decide +kernel
theorem pz_174 : pl0 49 5 = 174 := by decide +kernel
theorem pz_175 : pl0 49 6 = 175 := by decide +kernel
theorem pz_176 : pl0 49 7 = 176 := by decide +kernel
theorem pz_177 : pl0 49 8 = 177 := by decide +kernel
theorem pz_178 : pl0 49 9 = 178 := by decide +kernel
theorem pz_179 : pl0 49 10 = 179 := by decide +kernel
theorem pz_180 : pl0 50 0 = 180 := by decide +kernel
theorem pz_181 : pl0 50 3 = 181 := by decide +kernel
theorem pz_182 : pl0 50 4 = 182 := by decide +kernel
theorem pz_183 : pl0 50 5 = 183 := by decide +kernel
theorem pz_184 : pl0 50 6 = 184 := by decide +kernel
theorem pz_185 : pl0 50 7 = 185 := by decide +kernel
theorem pz_186 : pl0 50 8 = 186 := by decide +kernel
theorem pz_187 : pl0 50 9 = 187 := by decide +kernel
theorem pz_188 : pl0 50 10 = 188 := by decide +kernel
theorem pz_189 : pl0 51 0 = 189 := by decide +kernel
theorem pz_190 : pl0 51 3 = 190 := by decide +kernel
theorem pz_191 : pl0 51 4 = 191 := by decide +kernel
theorem pz_192 : pl0 51 5 = 192 := by decide +kernel
theorem pz_193 : pl0 51 6 = 193 := by decide +kernel
theorem pz_194 : pl0 51 7 = 194 := by decide +kernel
theorem pz_195 : pl0 51 8 = 195 := by decide +kernel
theorem pz_196 : pl0 51 9 = 196 := by decide +kernel
theorem pz_197 : pl0 51 10 = 197 := by decide +kernel
theorem pz_198 : pl0 0 11 = 198 := by decide +kernel
theorem pz_199 : pl0 52 0 = 199 := by decide +kernel
theorem pz_200 : pl0 52 1 = 200 := by decide +kernel
theorem pz_201 : pl0 53 0 = 201 := by decide +kernel
theorem pz_202 : pl0 53 1 = 202 := by decide +kernel
theorem pz_203 : pl0 54 0 = 203 := by decide +kernel
theorem pz_204 : pl0 54 1 = 204 := by decide +kernel
theorem pz_205 : pl0 55 0 = 205 := by decide +kernel
theorem pz_206 : pl0 55 2 = 206 := by decide +kernel
theorem pz_207 : pl0 55 3 = 207 := by decide +kernel
theorem pz_208 : pl0 55 4 = 208 := by decide +kernel
theorem pz_209 : pl0 55 5 = 209 := by decide +kernel
theorem pz_210 : pl0 55 6 = 210 := by decide +kernel
theorem pz_211 : pl0 55 7 = 211 := by decide +kernel
theorem pz_212 : pl0 55 8 = 212 := by decide +kernel
theorem pz_213 : pl0 55 9 = 213 := by decide +kernel
theorem pz_214 : pl0 55 10 = 214 := by decide +kernel
theorem pz_215 : pl0 55 11 = 215 := by decide +kernel
theorem pz_216 : pl0 55 12 = 216 := by decide +kernel
theorem pz_217 : pl0 55 13 = 217 := by decide +kernel
theorem pz_218 : pl0 55 14 = 218 := by decide +kernel
theorem pz_219 : pl0 55 17 = 219 := by decide +kernel
theorem pz_220 : pl0 55 31 = 220 := by decide +kernel
theorem pz_221 : pl0 55 32 = 221 := by decide +kernel
theorem pz_222 : pl0 55 33 = 222 := by decide +kernel
theorem pz_223 : pl0 55 34 = 223 := by decide +kernel
theorem pz_224 : pl0 55 35 = 224 := by decide +kernel
theorem pz_225 : pl0 55 37 = 225 := by decide +kernel
theorem pz_226 : pl0 55 38 = 226 := by decide +kernel
theorem pz_227 : pl0 55 40 = 227 := by decide +kernel
theorem pz_228 : pl0 55 41 = 228 := by decide +kernel
theorem pz_229 : pl0 55 42 = 229 := by decide +kernel
theorem pz_230 : pl0 55 43 = 230 := by decide +kernel
theorem pz_231 : pl0 55 47 = 231 := by decide +kernel
theorem pz_232 : pl0 55 48 = 232 := by decide +kernel
theorem pz_233 : pl0 55 49 = 233 := by decide +kernel
theorem pz_234 : pl0 55 50 = 234 := by decide +kernel
theorem pz_235 : pl0 55 51 = 235 := by decide +kernel
theorem pz_236 : pl0 55 52 = 236 := by decide +kernel
theorem pz_237 : pl0 55 53 = 237 := by decide +kernel
theorem pz_238 : pl0 55 54 = 238 := by decide +kernel
set_option maxRecDepth 100000 in
theorem z_0 {G : px_D} {b : Nat} : tzE G b 0 0 0 := tz_o (F := F_X11_init b 0 1) rfl (by decide) (fun k hk => match k, hk with
  | 0, _ => (congrArg (fun x => Value.ref (b + x)) pz_1).symm
  | 1, _ => (congrArg (fun x => Value.ref (b + x)) pz_3).symm
  | 2, _ => (congrArg (fun x => Value.ref (b + x)) pz_4).symm
  | 3, _ => (congrArg (fun x => Value.ref (b + x)) pz_53).symm
  | 4, _ => (congrArg (fun x => Value.ref (b + x)) pz_102).symm
  | 5, _ => (congrArg (fun x => Value.ref (b + x)) pz_111).symm
  | 6, _ => (congrArg (fun x => Value.ref (b + x)) pz_120).symm
  | 7, _ => (congrArg (fun x => Value.ref (b + x)) pz_125).symm
  | 8, _ => rfl
  | 9, _ => rfl
  | 10, _ => (congrArg (fun x => Value.ref (b + x)) pz_198).symm
  | k + 11, h => absurd h (by omega))
set_option maxRecDepth 100000 in
theorem z_1 {G : px_D} {b : Nat} : tzE G b 1 1 0 := tz_o (F := F_X8_init b 1 2) rfl (by decide) (fun k hk => match k, hk with
  | 0, _ => (congrArg (fun x => Value.ref (b + x)) pz_2).symm
  | 1, _ => rfl
  | 2, _ => rfl
  | 3, _ => rfl
  | 4, _ => rfl
  | 5, _ => rfl
  | 6, _ => rfl
  | 7, _ => rfl
  | k + 8, h => absurd h (by omega))
set_option maxRecDepth 100000 in
theorem z_2 {G : px_D} {b : Nat} : tzE G b 2 1 1 := tz_b (n := 1200) (f := fun _ => 0) rfl (by decide) (fun i _ => rfl)
set_option maxRecDepth 100000 in
theorem z_3 {G : px_D} {b : Nat} : tzE G b 3 2 0 := tz_o (F := F_X4_init b 3 1 4) rfl (by decide) (fun k hk => match k, hk with
  | 0, _ => (congrArg (fun x => Value.ref (b + x)) pz_1).symm
  | 1, _ => rfl
  | 2, _ => rfl
  | 3, _ => rfl
  | 4, _ => rfl
  | k + 5, h => absurd h (by omega))
set_option maxRecDepth 100000 in
theorem z_4 {G : px_D} {b : Nat} : tzE G b 4 4 0 := tz_o (F := F_X9_init b 4 5) rfl (by decide) (fun k hk => match k, hk with
  | 0, _ => (congrArg (fun x => Value.ref (b + x)) pz_5).symm
  | 1, _ => (congrArg (fun x => Value.ref (b + x)) pz_9).symm
  | 2, _ => (congrArg (fun x => Value.ref (b + x)) pz_10).symm
  | 3, _ => (congrArg (fun x => Value.ref (b + x)) pz_11).symm
  | 4, _ => (congrArg (fun x => Value.ref (b + x)) pz_12).symm
  | 5, _ => (congrArg (fun x => Value.ref (b + x)) pz_13).symm
  | 6, _ => (congrArg (fun x => Value.ref (b + x)) pz_14).symm
  | 7, _ => rfl
  | 8, _ => rfl
  | 9, _ => rfl
  | 10, _ => (congrArg (fun x => Value.ref (b + x)) pz_31).symm
  | 11, _ => (congrArg (fun x => Value.ref (b + x)) pz_46).symm
  | 12, _ => (congrArg (fun x => Value.ref (b + x)) pz_50).symm
  | 13, _ => (congrArg (fun x => Value.ref (b + x)) pz_51).symm
  | 14, _ => (congrArg (fun x => Value.ref (b + x)) pz_52).symm
  | k + 15, h => absurd h (by omega))
set_option maxRecDepth 100000 in
theorem z_5 {G : px_D} {b : Nat} : tzE G b 5 4 1 := tz_m (n := 3) rfl (by decide) (fun i hi => match i, hi with
  | 0, _ => (congrArg (fun x => some (b + x)) pz_6).symm
  | 1, _ => (congrArg (fun x => some (b + x)) pz_7).symm
  | 2, _ => (congrArg (fun x => some (b + x)) pz_8).symm
  | i + 3, h => absurd h (by omega))
set_option maxRecDepth 100000 in
theorem z_6 {G : px_D} {b : Nat} : tzE G b 6 4 101 := tz_n (n := 10) (f := fun _ => 0) rfl (by decide) (fun i _ => rfl)
set_option maxRecDepth 100000 in
theorem z_7 {G : px_D} {b : Nat} : tzE G b 7 4 201 := tz_n (n := 10) (f := fun _ => 0) rfl (by decide) (fun i _ => rfl)
set_option maxRecDepth 100000 in
theorem z_8 {G : px_D} {b : Nat} : tzE G b 8 4 301 := tz_n (n := 10) (f := fun _ => 0) rfl (by decide) (fun i _ => rfl)
set_option maxRecDepth 100000 in
theorem z_9 {G : px_D} {b : Nat} : tzE G b 9 4 2 := tz_i (n := 3) (f := fun _ => 0) rfl (by decide) (fun i _ => rfl)
set_option maxRecDepth 100000 in
theorem z_10 {G : px_D} {b : Nat} : tzE G b 10 4 3 := tz_i (n := 10) (f := fun _ => 0) rfl (by decide) (fun i _ => rfl)
set_option maxRecDepth 100000 in
theorem z_11 {G : px_D} {b : Nat} : tzE G b 11 4 4 := tz_i (n := 10) (f := fun _ => 0) rfl (by decide) (fun i _ => rfl)
set_option maxRecDepth 100000 in
theorem z_12 {G : px_D} {b : Nat} : tzE G b 12 4 5 := tz_i (n := 10) (f := fun _ => 0) rfl (by decide) (fun i _ => rfl)
set_option maxRecDepth 100000 in
theorem z_13 {G : px_D} {b : Nat} : tzE G b 13 4 6 := tz_i (n := 10) (f := fun _ => 0) rfl (by decide) (fun i _ => rfl)
set_option maxRecDepth 100000 in
theorem z_14 {G : px_D} {b : Nat} : tzE G b 14 4 7 := tz_r (n := 16) (t := 8) rfl (by decide) (fun i hi => match i, hi with
  | 0, _ => (congrArg (fun x => some (b + x)) pz_15).symm
  | 1, _ => (congrArg (fun x => some (b + x)) pz_16).symm
  | 2, _ => (congrArg (fun x => some (b + x)) pz_17).symm
  | 3, _ => (congrArg (fun x => some (b + x)) pz_18).symm
  | 4, _ => (congrArg (fun x => some (b + x)) pz_19).symm
  | 5, _ => (congrArg (fun x => some (b + x)) pz_20).symm
  | 6, _ => (congrArg (fun x => some (b + x)) pz_21).symm
  | 7, _ => (congrArg (fun x => some (b + x)) pz_22).symm
  | 8, _ => (congrArg (fun x => some (b + x)) pz_23).symm
  | 9, _ => (congrArg (fun x => some (b + x)) pz_24).symm
  | 10, _ => (congrArg (fun x => some (b + x)) pz_25).symm
  | 11, _ => (congrArg (fun x => some (b + x)) pz_26).symm
  | 12, _ => (congrArg (fun x => some (b + x)) pz_27).symm
  | 13, _ => (congrArg (fun x => some (b + x)) pz_28).symm
  | 14, _ => (congrArg (fun x => some (b + x)) pz_29).symm
  | 15, _ => (congrArg (fun x => some (b + x)) pz_30).symm
  | i + 16, h => absurd h (by omega))
set_option maxRecDepth 100000 in
theorem z_15 {G : px_D} {b : Nat} : tzE G b 15 10 0 := tz_o (F := dF 1) rfl (by decide) (fun k hk => match k, hk with
  | 0, _ => rfl
  | 1, _ => rfl
  | 2, _ => rfl
  | 3, _ => rfl
  | 4, _ => rfl
  | 5, _ => rfl
  | 6, _ => rfl
  | 7, _ => rfl
  | 8, _ => rfl
  | 9, _ => rfl
  | k + 10, h => absurd h (by omega))
set_option maxRecDepth 100000 in
theorem z_16 {G : px_D} {b : Nat} : tzE G b 16 11 0 := tz_o (F := dF 1) rfl (by decide) (fun k hk => match k, hk with
  | 0, _ => rfl
  | 1, _ => rfl
  | 2, _ => rfl
  | 3, _ => rfl
  | 4, _ => rfl
  | 5, _ => rfl
  | 6, _ => rfl
  | 7, _ => rfl
  | 8, _ => rfl
  | 9, _ => rfl
  | k + 10, h => absurd h (by omega))
set_option maxRecDepth 100000 in
theorem z_17 {G : px_D} {b : Nat} : tzE G b 17 12 0 := tz_o (F := dF 1) rfl (by decide) (fun k hk => match k, hk with
  | 0, _ => rfl
  | 1, _ => rfl
  | 2, _ => rfl
  | 3, _ => rfl
  | 4, _ => rfl
  | 5, _ => rfl
  | 6, _ => rfl
  | 7, _ => rfl
  | 8, _ => rfl
  | 9, _ => rfl
  | k + 10, h => absurd h (by omega))
set_option maxRecDepth 100000 in
theorem z_18 {G : px_D} {b : Nat} : tzE G b 18 13 0 := tz_o (F := dF 1) rfl (by decide) (fun k hk => match k, hk with
  | 0, _ => rfl
  | 1, _ => rfl
  | 2, _ => rfl
  | 3, _ => rfl
  | 4, _ => rfl
  | 5, _ => rfl
  | 6, _ => rfl
  | 7, _ => rfl
  | 8, _ => rfl
  | 9, _ => rfl
  | k + 10, h => absurd h (by omega))
set_option maxRecDepth 100000 in
theorem z_19 {G : px_D} {b : Nat} : tzE G b 19 14 0 := tz_o (F := dF 1) rfl (by decide) (fun k hk => match k, hk with
  | 0, _ => rfl
  | 1, _ => rfl
  | 2, _ => rfl
  | 3, _ => rfl
  | 4, _ => rfl
  | 5, _ => rfl
  | 6, _ => rfl
  | 7, _ => rfl
  | 8, _ => rfl
  | 9, _ => rfl
  | k + 10, h => absurd h (by omega))
set_option maxRecDepth 100000 in
theorem z_20 {G : px_D} {b : Nat} : tzE G b 20 15 0 := tz_o (F := dF 1) rfl (by decide) (fun k hk => match k, hk with
  | 0, _ => rfl
  | 1, _ => rfl
  | 2, _ => rfl
  | 3, _ => rfl
  | 4, _ => rfl
  | 5, _ => rfl
  | 6, _ => rfl
  | 7, _ => rfl
  | 8, _ => rfl
  | 9, _ => rfl
  | k + 10, h => absurd h (by omega))
set_option maxRecDepth 100000 in
theorem z_21 {G : px_D} {b : Nat} : tzE G b 21 16 0 := tz_o (F := dF 1) rfl (by decide) (fun k hk => match k, hk with
  | 0, _ => rfl
  | 1, _ => rfl
  | 2, _ => rfl
  | 3, _ => rfl
  | 4, _ => rfl
  | 5, _ => rfl
  | 6, _ => rfl
  | 7, _ => rfl
  | 8, _ => rfl
  | 9, _ => rfl
  | k + 10, h => absurd h (by omega))
set_option maxRecDepth 100000 in
theorem z_22 {G : px_D} {b : Nat} : tzE G b 22 17 0 := tz_o (F := dF 1) rfl (by decide) (fun k hk => match k, hk with
  | 0, _ => rfl
  | 1, _ => rfl
  | 2, _ => rfl
  | 3, _ => rfl
  | 4, _ => rfl
  | 5, _ => rfl
  | 6, _ => rfl
  | 7, _ => rfl
  | 8, _ => rfl
  | 9, _ => rfl
  | k + 10, h => absurd h (by omega))
set_option maxRecDepth 100000 in
theorem z_23 {G : px_D} {b : Nat} : tzE G b 23 18 0 := tz_o (F := dF 1) rfl (by decide) (fun k hk => match k, hk with
  | 0, _ => rfl
  | 1, _ => rfl
  | 2, _ => rfl
  | 3, _ => rfl
  | 4, _ => rfl
  | 5, _ => rfl
  | 6, _ => rfl
  | 7, _ => rfl
  | 8, _ => rfl
  | 9, _ => rfl
  | k + 10, h => absurd h (by omega))
set_option maxRecDepth 100000 in
theorem z_24 {G : px_D} {b : Nat} : tzE G b 24 19 0 := tz_o (F := dF 1) rfl (by decide) (fun k hk => match k, hk with
  | 0, _ => rfl
  | 1, _ => rfl
  | 2, _ => rfl
  | 3, _ => rfl
  | 4, _ => rfl
  | 5, _ => rfl
  | 6, _ => rfl
  | 7, _ => rfl
  | 8, _ => rfl
  | 9, _ => rfl
  | k + 10, h => absurd h (by omega))
set_option maxRecDepth 100000 in
theorem z_25 {G : px_D} {b : Nat} : tzE G b 25 20 0 := tz_o (F := dF 1) rfl (by decide) (fun k hk => match k, hk with
  | 0, _ => rfl
  | 1, _ => rfl
  | 2, _ => rfl
  | 3, _ => rfl
  | 4, _ => rfl
  | 5, _ => rfl
  | 6, _ => rfl
  | 7, _ => rfl
  | 8, _ => rfl
  | 9, _ => rfl
  | k + 10, h => absurd h (by omega))
set_option maxRecDepth 100000 in
theorem z_26 {G : px_D} {b : Nat} : tzE G b 26 21 0 := tz_o (F := dF 1) rfl (by decide) (fun k hk => match k, hk with
  | 0, _ => rfl
  | 1, _ => rfl
  | 2, _ => rfl
  | 3, _ => rfl
  | 4, _ => rfl
  | 5, _ => rfl
  | 6, _ => rfl
  | 7, _ => rfl
  | 8, _ => rfl
  | 9, _ => rfl
  | k + 10, h => absurd h (by omega))
set_option maxRecDepth 100000 in
theorem z_27 {G : px_D} {b : Nat} : tzE G b 27 22 0 := tz_o (F := dF 1) rfl (by decide) (fun k hk => match k, hk with
  | 0, _ => rfl
  | 1, _ => rfl
  | 2, _ => rfl
  | 3, _ => rfl
  | 4, _ => rfl
  | 5, _ => rfl
  | 6, _ => rfl
  | 7, _ => rfl
  | 8, _ => rfl
  | 9, _ => rfl
  | k + 10, h => absurd h (by omega))
set_option maxRecDepth 100000 in
theorem z_28 {G : px_D} {b : Nat} : tzE G b 28 23 0 := tz_o (F := dF 1) rfl (by decide) (fun k hk => match k, hk with
  | 0, _ => rfl
  | 1, _ => rfl
  | 2, _ => rfl
  | 3, _ => rfl
  | 4, _ => rfl
  | 5, _ => rfl
  | 6, _ => rfl
  | 7, _ => rfl
  | 8, _ => rfl
  | 9, _ => rfl
  | k + 10, h => absurd h (by omega))
set_option maxRecDepth 100000 in
theorem z_29 {G : px_D} {b : Nat} : tzE G b 29 24 0 := tz_o (F := dF 1) rfl (by decide) (fun k hk => match k, hk with
  | 0, _ => rfl
  | 1, _ => rfl
  | 2, _ => rfl
  | 3, _ => rfl
  | 4, _ => rfl
  | 5, _ => rfl
  | 6, _ => rfl
  | 7, _ => rfl
  | 8, _ => rfl
  | 9, _ => rfl
  | k + 10, h => absurd h (by omega))
set_option maxRecDepth 100000 in
theorem z_30 {G : px_D} {b : Nat} : tzE G b 30 25 0 := tz_o (F := dF 1) rfl (by decide) (fun k hk => match k, hk with
  | 0, _ => rfl
  | 1, _ => rfl
  | 2, _ => rfl
  | 3, _ => rfl
  | 4, _ => rfl
  | 5, _ => rfl
  | 6, _ => rfl
  | 7, _ => rfl
  | 8, _ => rfl
  | 9, _ => rfl
  | k + 10, h => absurd h (by omega))
set_option maxRecDepth 100000 in
theorem z_31 {G : px_D} {b : Nat} : tzE G b 31 6 0 := tz_o (F := F_X5_init b 31 32) rfl (by decide) (fun k hk => match k, hk with
  | 0, _ => rfl
  | 1, _ => (congrArg (fun x => Value.ref (b + x)) pz_32).symm
  | 2, _ => (congrArg (fun x => Value.ref (b + x)) pz_39).symm
  | k + 3, h => absurd h (by omega))
set_option maxRecDepth 100000 in
theorem z_32 {G : px_D} {b : Nat} : tzE G b 32 6 2 := tz_m (n := 6) rfl (by decide) (fun i hi => match i, hi with
  | 0, _ => (congrArg (fun x => some (b + x)) pz_33).symm
  | 1, _ => (congrArg (fun x => some (b + x)) pz_34).symm
  | 2, _ => (congrArg (fun x => some (b + x)) pz_35).symm
  | 3, _ => (congrArg (fun x => some (b + x)) pz_36).symm
  | 4, _ => (congrArg (fun x => some (b + x)) pz_37).symm
  | 5, _ => (congrArg (fun x => some (b + x)) pz_38).symm
  | i + 6, h => absurd h (by omega))
set_option maxRecDepth 100000 in
theorem z_33 {G : px_D} {b : Nat} : tzE G b 33 6 102 := tz_n (n := 6) (f := fun _ => 0) rfl (by decide) (fun i _ => rfl)
set_option maxRecDepth 100000 in
theorem z_34 {G : px_D} {b : Nat} : tzE G b 34 6 202 := tz_n (n := 6) (f := fun _ => 0) rfl (by decide) (fun i _ => rfl)
set_option maxRecDepth 100000 in
theorem z_35 {G : px_D} {b : Nat} : tzE G b 35 6 302 := tz_n (n := 6) (f := fun _ => 0) rfl (by decide) (fun i _ => rfl)
set_option maxRecDepth 100000 in
theorem z_36 {G : px_D} {b : Nat} : tzE G b 36 6 402 := tz_n (n := 6) (f := fun _ => 0) rfl (by decide) (fun i _ => rfl)
set_option maxRecDepth 100000 in
theorem z_37 {G : px_D} {b : Nat} : tzE G b 37 6 502 := tz_n (n := 6) (f := fun _ => 0) rfl (by decide) (fun i _ => rfl)
set_option maxRecDepth 100000 in
theorem z_38 {G : px_D} {b : Nat} : tzE G b 38 6 602 := tz_n (n := 6) (f := fun _ => 0) rfl (by decide) (fun i _ => rfl)
set_option maxRecDepth 100000 in
theorem z_39 {G : px_D} {b : Nat} : tzE G b 39 6 3 := tz_m (n := 6) rfl (by decide) (fun i hi => match i, hi with
  | 0, _ => (congrArg (fun x => some (b + x)) pz_40).symm
  | 1, _ => (congrArg (fun x => some (b + x)) pz_41).symm
  | 2, _ => (congrArg (fun x => some (b + x)) pz_42).symm
  | 3, _ => (congrArg (fun x => some (b + x)) pz_43).symm
  | 4, _ => (congrArg (fun x => some (b + x)) pz_44).symm
  | 5, _ => (congrArg (fun x => some (b + x)) pz_45).symm
  | i + 6, h => absurd h (by omega))
set_option maxRecDepth 100000 in
theorem z_40 {G : px_D} {b : Nat} : tzE G b 40 6 103 := tz_n (n := 6) (f := fun _ => 0) rfl (by decide) (fun i _ => rfl)
set_option maxRecDepth 100000 in
theorem z_41 {G : px_D} {b : Nat} : tzE G b 41 6 203 := tz_n (n := 6) (f := fun _ => 0) rfl (by decide) (fun i _ => rfl)
set_option maxRecDepth 100000 in
theorem z_42 {G : px_D} {b : Nat} : tzE G b 42 6 303 := tz_n (n := 6) (f := fun _ => 0) rfl (by decide) (fun i _ => rfl)
set_option maxRecDepth 100000 in
theorem z_43 {G : px_D} {b : Nat} : tzE G b 43 6 403 := tz_n (n := 6) (f := fun _ => 0) rfl (by decide) (fun i _ => rfl)
set_option maxRecDepth 100000 in
theorem z_44 {G : px_D} {b : Nat} : tzE G b 44 6 503 := tz_n (n := 6) (f := fun _ => 0) rfl (by decide) (fun i _ => rfl)
set_option maxRecDepth 100000 in
theorem z_45 {G : px_D} {b : Nat} : tzE G b 45 6 603 := tz_n (n := 6) (f := fun _ => 0) rfl (by decide) (fun i _ => rfl)
set_option maxRecDepth 100000 in
theorem z_46 {G : px_D} {b : Nat} : tzE G b 46 8 0 := tz_o (F := F_X3_init b 46 47) rfl (by decide) (fun k hk => match k, hk with
  | 0, _ => (congrArg (fun x => Value.ref (b + x)) pz_47).symm
  | 1, _ => rfl
  | 2, _ => (congrArg (fun x => Value.ref (b + x)) pz_48).symm
  | 3, _ => (congrArg (fun x => Value.ref (b + x)) pz_49).symm
  | 4, _ => rfl
  | k + 5, h => absurd h (by omega))
set_option maxRecDepth 100000 in
theorem z_47 {G : px_D} {b : Nat} : tzE G b 47 8 1 := tz_i (n := 1200) (f := fun _ => 0) rfl (by decide) (fun i _ => rfl)
set_option maxRecDepth 100000 in
theorem z_48 {G : px_D} {b : Nat} : tzE G b 48 8 3 := tz_i (n := 8) (f := fun _ => 0) rfl (by decide) (fun i _ => rfl)
set_option maxRecDepth 100000 in
theorem z_49 {G : px_D} {b : Nat} : tzE G b 49 8 4 := tz_l (n := 16) (f := fun _ => 0) rfl (by decide) (fun i _ => rfl)
set_option maxRecDepth 100000 in
theorem z_50 {G : px_D} {b : Nat} : tzE G b 50 4 13 := tz_i (n := 16) (f := fun _ => 0) rfl (by decide) (fun i _ => rfl)
set_option maxRecDepth 100000 in
theorem z_51 {G : px_D} {b : Nat} : tzE G b 51 4 14 := tz_i (n := 7) (f := fun _ => 0) rfl (by decide) (fun i _ => rfl)
set_option maxRecDepth 100000 in
theorem z_52 {G : px_D} {b : Nat} : tzE G b 52 4 15 := tz_i (n := 6) (f := fun _ => 0) rfl (by decide) (fun i _ => rfl)
set_option maxRecDepth 100000 in
theorem z_53 {G : px_D} {b : Nat} : tzE G b 53 5 0 := tz_o (F := F_X9_init b 53 54) rfl (by decide) (fun k hk => match k, hk with
  | 0, _ => (congrArg (fun x => Value.ref (b + x)) pz_54).symm
  | 1, _ => (congrArg (fun x => Value.ref (b + x)) pz_58).symm
  | 2, _ => (congrArg (fun x => Value.ref (b + x)) pz_59).symm
  | 3, _ => (congrArg (fun x => Value.ref (b + x)) pz_60).symm
  | 4, _ => (congrArg (fun x => Value.ref (b + x)) pz_61).symm
  | 5, _ => (congrArg (fun x => Value.ref (b + x)) pz_62).symm
  | 6, _ => (congrArg (fun x => Value.ref (b + x)) pz_63).symm
  | 7, _ => rfl
  | 8, _ => rfl
  | 9, _ => rfl
  | 10, _ => (congrArg (fun x => Value.ref (b + x)) pz_80).symm
  | 11, _ => (congrArg (fun x => Value.ref (b + x)) pz_95).symm
  | 12, _ => (congrArg (fun x => Value.ref (b + x)) pz_99).symm
  | 13, _ => (congrArg (fun x => Value.ref (b + x)) pz_100).symm
  | 14, _ => (congrArg (fun x => Value.ref (b + x)) pz_101).symm
  | k + 15, h => absurd h (by omega))
set_option maxRecDepth 100000 in
theorem z_54 {G : px_D} {b : Nat} : tzE G b 54 5 1 := tz_m (n := 3) rfl (by decide) (fun i hi => match i, hi with
  | 0, _ => (congrArg (fun x => some (b + x)) pz_55).symm
  | 1, _ => (congrArg (fun x => some (b + x)) pz_56).symm
  | 2, _ => (congrArg (fun x => some (b + x)) pz_57).symm
  | i + 3, h => absurd h (by omega))
set_option maxRecDepth 100000 in
theorem z_55 {G : px_D} {b : Nat} : tzE G b 55 5 101 := tz_n (n := 10) (f := fun _ => 0) rfl (by decide) (fun i _ => rfl)
set_option maxRecDepth 100000 in
theorem z_56 {G : px_D} {b : Nat} : tzE G b 56 5 201 := tz_n (n := 10) (f := fun _ => 0) rfl (by decide) (fun i _ => rfl)
set_option maxRecDepth 100000 in
theorem z_57 {G : px_D} {b : Nat} : tzE G b 57 5 301 := tz_n (n := 10) (f := fun _ => 0) rfl (by decide) (fun i _ => rfl)
set_option maxRecDepth 100000 in
theorem z_58 {G : px_D} {b : Nat} : tzE G b 58 5 2 := tz_i (n := 3) (f := fun _ => 0) rfl (by decide) (fun i _ => rfl)
set_option maxRecDepth 100000 in
theorem z_59 {G : px_D} {b : Nat} : tzE G b 59 5 3 := tz_i (n := 10) (f := fun _ => 0) rfl (by decide) (fun i _ => rfl)
set_option maxRecDepth 100000 in
theorem z_60 {G : px_D} {b : Nat} : tzE G b 60 5 4 := tz_i (n := 10) (f := fun _ => 0) rfl (by decide) (fun i _ => rfl)
set_option maxRecDepth 100000 in
theorem z_61 {G : px_D} {b : Nat} : tzE G b 61 5 5 := tz_i (n := 10) (f := fun _ => 0) rfl (by decide) (fun i _ => rfl)
set_option maxRecDepth 100000 in
theorem z_62 {G : px_D} {b : Nat} : tzE G b 62 5 6 := tz_i (n := 10) (f := fun _ => 0) rfl (by decide) (fun i _ => rfl)
set_option maxRecDepth 100000 in
theorem z_63 {G : px_D} {b : Nat} : tzE G b 63 5 7 := tz_r (n := 16) (t := 8) rfl (by decide) (fun i hi => match i, hi with
  | 0, _ => (congrArg (fun x => some (b + x)) pz_64).symm
  | 1, _ => (congrArg (fun x => some (b + x)) pz_65).symm
  | 2, _ => (congrArg (fun x => some (b + x)) pz_66).symm
  | 3, _ => (congrArg (fun x => some (b + x)) pz_67).symm
  | 4, _ => (congrArg (fun x => some (b + x)) pz_68).symm
  | 5, _ => (congrArg (fun x => some (b + x)) pz_69).symm
  | 6, _ => (congrArg (fun x => some (b + x)) pz_70).symm
  | 7, _ => (congrArg (fun x => some (b + x)) pz_71).symm
  | 8, _ => (congrArg (fun x => some (b + x)) pz_72).symm
  | 9, _ => (congrArg (fun x => some (b + x)) pz_73).symm
  | 10, _ => (congrArg (fun x => some (b + x)) pz_74).symm
  | 11, _ => (congrArg (fun x => some (b + x)) pz_75).symm
  | 12, _ => (congrArg (fun x => some (b + x)) pz_76).symm
  | 13, _ => (congrArg (fun x => some (b + x)) pz_77).symm
  | 14, _ => (congrArg (fun x => some (b + x)) pz_78).symm
  | 15, _ => (congrArg (fun x => some (b + x)) pz_79).symm
  | i + 16, h => absurd h (by omega))
set_option maxRecDepth 100000 in
theorem z_64 {G : px_D} {b : Nat} : tzE G b 64 26 0 := tz_o (F := dF 1) rfl (by decide) (fun k hk => match k, hk with
  | 0, _ => rfl
  | 1, _ => rfl
  | 2, _ => rfl
  | 3, _ => rfl
  | 4, _ => rfl
  | 5, _ => rfl
  | 6, _ => rfl
  | 7, _ => rfl
  | 8, _ => rfl
  | 9, _ => rfl
  | k + 10, h => absurd h (by omega))
set_option maxRecDepth 100000 in
theorem z_65 {G : px_D} {b : Nat} : tzE G b 65 27 0 := tz_o (F := dF 1) rfl (by decide) (fun k hk => match k, hk with
  | 0, _ => rfl
  | 1, _ => rfl
  | 2, _ => rfl
  | 3, _ => rfl
  | 4, _ => rfl
  | 5, _ => rfl
  | 6, _ => rfl
  | 7, _ => rfl
  | 8, _ => rfl
  | 9, _ => rfl
  | k + 10, h => absurd h (by omega))
set_option maxRecDepth 100000 in
theorem z_66 {G : px_D} {b : Nat} : tzE G b 66 28 0 := tz_o (F := dF 1) rfl (by decide) (fun k hk => match k, hk with
  | 0, _ => rfl
  | 1, _ => rfl
  | 2, _ => rfl
  | 3, _ => rfl
  | 4, _ => rfl
  | 5, _ => rfl
  | 6, _ => rfl
  | 7, _ => rfl
  | 8, _ => rfl
  | 9, _ => rfl
  | k + 10, h => absurd h (by omega))
set_option maxRecDepth 100000 in
theorem z_67 {G : px_D} {b : Nat} : tzE G b 67 29 0 := tz_o (F := dF 1) rfl (by decide) (fun k hk => match k, hk with
  | 0, _ => rfl
  | 1, _ => rfl
  | 2, _ => rfl
  | 3, _ => rfl
  | 4, _ => rfl
  | 5, _ => rfl
  | 6, _ => rfl
  | 7, _ => rfl
  | 8, _ => rfl
  | 9, _ => rfl
  | k + 10, h => absurd h (by omega))
set_option maxRecDepth 100000 in
theorem z_68 {G : px_D} {b : Nat} : tzE G b 68 30 0 := tz_o (F := dF 1) rfl (by decide) (fun k hk => match k, hk with
  | 0, _ => rfl
  | 1, _ => rfl
  | 2, _ => rfl
  | 3, _ => rfl
  | 4, _ => rfl
  | 5, _ => rfl
  | 6, _ => rfl
  | 7, _ => rfl
  | 8, _ => rfl
  | 9, _ => rfl
  | k + 10, h => absurd h (by omega))
set_option maxRecDepth 100000 in
theorem z_69 {G : px_D} {b : Nat} : tzE G b 69 31 0 := tz_o (F := dF 1) rfl (by decide) (fun k hk => match k, hk with
  | 0, _ => rfl
  | 1, _ => rfl
  | 2, _ => rfl
  | 3, _ => rfl
  | 4, _ => rfl
  | 5, _ => rfl
  | 6, _ => rfl
  | 7, _ => rfl
  | 8, _ => rfl
  | 9, _ => rfl
  | k + 10, h => absurd h (by omega))
set_option maxRecDepth 100000 in
theorem z_70 {G : px_D} {b : Nat} : tzE G b 70 32 0 := tz_o (F := dF 1) rfl (by decide) (fun k hk => match k, hk with
  | 0, _ => rfl
  | 1, _ => rfl
  | 2, _ => rfl
  | 3, _ => rfl
  | 4, _ => rfl
  | 5, _ => rfl
  | 6, _ => rfl
  | 7, _ => rfl
  | 8, _ => rfl
  | 9, _ => rfl
  | k + 10, h => absurd h (by omega))
set_option maxRecDepth 100000 in
theorem z_71 {G : px_D} {b : Nat} : tzE G b 71 33 0 := tz_o (F := dF 1) rfl (by decide) (fun k hk => match k, hk with
  | 0, _ => rfl
  | 1, _ => rfl
  | 2, _ => rfl
  | 3, _ => rfl
  | 4, _ => rfl
  | 5, _ => rfl
  | 6, _ => rfl
  | 7, _ => rfl
  | 8, _ => rfl
  | 9, _ => rfl
  | k + 10, h => absurd h (by omega))
set_option maxRecDepth 100000 in
theorem z_72 {G : px_D} {b : Nat} : tzE G b 72 34 0 := tz_o (F := dF 1) rfl (by decide) (fun k hk => match k, hk with
  | 0, _ => rfl
  | 1, _ => rfl
  | 2, _ => rfl
  | 3, _ => rfl
  | 4, _ => rfl
  | 5, _ => rfl
  | 6, _ => rfl
  | 7, _ => rfl
  | 8, _ => rfl
  | 9, _ => rfl
  | k + 10, h => absurd h (by omega))
set_option maxRecDepth 100000 in
theorem z_73 {G : px_D} {b : Nat} : tzE G b 73 35 0 := tz_o (F := dF 1) rfl (by decide) (fun k hk => match k, hk with
  | 0, _ => rfl
  | 1, _ => rfl
  | 2, _ => rfl
  | 3, _ => rfl
  | 4, _ => rfl
  | 5, _ => rfl
  | 6, _ => rfl
  | 7, _ => rfl
  | 8, _ => rfl
  | 9, _ => rfl
  | k + 10, h => absurd h (by omega))
set_option maxRecDepth 100000 in
theorem z_74 {G : px_D} {b : Nat} : tzE G b 74 36 0 := tz_o (F := dF 1) rfl (by decide) (fun k hk => match k, hk with
  | 0, _ => rfl
  | 1, _ => rfl
  | 2, _ => rfl
  | 3, _ => rfl
  | 4, _ => rfl
  | 5, _ => rfl
  | 6, _ => rfl
  | 7, _ => rfl
  | 8, _ => rfl
  | 9, _ => rfl
  | k + 10, h => absurd h (by omega))
set_option maxRecDepth 100000 in
theorem z_75 {G : px_D} {b : Nat} : tzE G b 75 37 0 := tz_o (F := dF 1) rfl (by decide) (fun k hk => match k, hk with
  | 0, _ => rfl
  | 1, _ => rfl
  | 2, _ => rfl
  | 3, _ => rfl
  | 4, _ => rfl
  | 5, _ => rfl
  | 6, _ => rfl
  | 7, _ => rfl
  | 8, _ => rfl
  | 9, _ => rfl
  | k + 10, h => absurd h (by omega))
set_option maxRecDepth 100000 in
theorem z_76 {G : px_D} {b : Nat} : tzE G b 76 38 0 := tz_o (F := dF 1) rfl (by decide) (fun k hk => match k, hk with
  | 0, _ => rfl
  | 1, _ => rfl
  | 2, _ => rfl
  | 3, _ => rfl
  | 4, _ => rfl
  | 5, _ => rfl
  | 6, _ => rfl
  | 7, _ => rfl
  | 8, _ => rfl
  | 9, _ => rfl
  | k + 10, h => absurd h (by omega))
set_option maxRecDepth 100000 in
theorem z_77 {G : px_D} {b : Nat} : tzE G b 77 39 0 := tz_o (F := dF 1) rfl (by decide) (fun k hk => match k, hk with
  | 0, _ => rfl
  | 1, _ => rfl
  | 2, _ => rfl
  | 3, _ => rfl
  | 4, _ => rfl
  | 5, _ => rfl
  | 6, _ => rfl
  | 7, _ => rfl
  | 8, _ => rfl
  | 9, _ => rfl
  | k + 10, h => absurd h (by omega))
set_option maxRecDepth 100000 in
theorem z_78 {G : px_D} {b : Nat} : tzE G b 78 40 0 := tz_o (F := dF 1) rfl (by decide) (fun k hk => match k, hk with
  | 0, _ => rfl
  | 1, _ => rfl
  | 2, _ => rfl
  | 3, _ => rfl
  | 4, _ => rfl
  | 5, _ => rfl
  | 6, _ => rfl
  | 7, _ => rfl
  | 8, _ => rfl
  | 9, _ => rfl
  | k + 10, h => absurd h (by omega))
set_option maxRecDepth 100000 in
theorem z_79 {G : px_D} {b : Nat} : tzE G b 79 41 0 := tz_o (F := dF 1) rfl (by decide) (fun k hk => match k, hk with
  | 0, _ => rfl
  | 1, _ => rfl
  | 2, _ => rfl
  | 3, _ => rfl
  | 4, _ => rfl
  | 5, _ => rfl
  | 6, _ => rfl
  | 7, _ => rfl
  | 8, _ => rfl
  | 9, _ => rfl
  | k + 10, h => absurd h (by omega))
set_option maxRecDepth 100000 in
theorem z_80 {G : px_D} {b : Nat} : tzE G b 80 7 0 := tz_o (F := F_X5_init b 80 81) rfl (by decide) (fun k hk => match k, hk with
  | 0, _ => rfl
  | 1, _ => (congrArg (fun x => Value.ref (b + x)) pz_81).symm
  | 2, _ => (congrArg (fun x => Value.ref (b + x)) pz_88).symm
  | k + 3, h => absurd h (by omega))
set_option maxRecDepth 100000 in
theorem z_81 {G : px_D} {b : Nat} : tzE G b 81 7 2 := tz_m (n := 6) rfl (by decide) (fun i hi => match i, hi with
  | 0, _ => (congrArg (fun x => some (b + x)) pz_82).symm
  | 1, _ => (congrArg (fun x => some (b + x)) pz_83).symm
  | 2, _ => (congrArg (fun x => some (b + x)) pz_84).symm
  | 3, _ => (congrArg (fun x => some (b + x)) pz_85).symm
  | 4, _ => (congrArg (fun x => some (b + x)) pz_86).symm
  | 5, _ => (congrArg (fun x => some (b + x)) pz_87).symm
  | i + 6, h => absurd h (by omega))
set_option maxRecDepth 100000 in
theorem z_82 {G : px_D} {b : Nat} : tzE G b 82 7 102 := tz_n (n := 6) (f := fun _ => 0) rfl (by decide) (fun i _ => rfl)
set_option maxRecDepth 100000 in
theorem z_83 {G : px_D} {b : Nat} : tzE G b 83 7 202 := tz_n (n := 6) (f := fun _ => 0) rfl (by decide) (fun i _ => rfl)
set_option maxRecDepth 100000 in
theorem z_84 {G : px_D} {b : Nat} : tzE G b 84 7 302 := tz_n (n := 6) (f := fun _ => 0) rfl (by decide) (fun i _ => rfl)
set_option maxRecDepth 100000 in
theorem z_85 {G : px_D} {b : Nat} : tzE G b 85 7 402 := tz_n (n := 6) (f := fun _ => 0) rfl (by decide) (fun i _ => rfl)
set_option maxRecDepth 100000 in
theorem z_86 {G : px_D} {b : Nat} : tzE G b 86 7 502 := tz_n (n := 6) (f := fun _ => 0) rfl (by decide) (fun i _ => rfl)
set_option maxRecDepth 100000 in
theorem z_87 {G : px_D} {b : Nat} : tzE G b 87 7 602 := tz_n (n := 6) (f := fun _ => 0) rfl (by decide) (fun i _ => rfl)
set_option maxRecDepth 100000 in
theorem z_88 {G : px_D} {b : Nat} : tzE G b 88 7 3 := tz_m (n := 6) rfl (by decide) (fun i hi => match i, hi with
  | 0, _ => (congrArg (fun x => some (b + x)) pz_89).symm
  | 1, _ => (congrArg (fun x => some (b + x)) pz_90).symm
  | 2, _ => (congrArg (fun x => some (b + x)) pz_91).symm
  | 3, _ => (congrArg (fun x => some (b + x)) pz_92).symm
  | 4, _ => (congrArg (fun x => some (b + x)) pz_93).symm
  | 5, _ => (congrArg (fun x => some (b + x)) pz_94).symm
  | i + 6, h => absurd h (by omega))
set_option maxRecDepth 100000 in
theorem z_89 {G : px_D} {b : Nat} : tzE G b 89 7 103 := tz_n (n := 6) (f := fun _ => 0) rfl (by decide) (fun i _ => rfl)
set_option maxRecDepth 100000 in
theorem z_90 {G : px_D} {b : Nat} : tzE G b 90 7 203 := tz_n (n := 6) (f := fun _ => 0) rfl (by decide) (fun i _ => rfl)
set_option maxRecDepth 100000 in
theorem z_91 {G : px_D} {b : Nat} : tzE G b 91 7 303 := tz_n (n := 6) (f := fun _ => 0) rfl (by decide) (fun i _ => rfl)
set_option maxRecDepth 100000 in
theorem z_92 {G : px_D} {b : Nat} : tzE G b 92 7 403 := tz_n (n := 6) (f := fun _ => 0) rfl (by decide) (fun i _ => rfl)
set_option maxRecDepth 100000 in
theorem z_93 {G : px_D} {b : Nat} : tzE G b 93 7 503 := tz_n (n := 6) (f := fun _ => 0) rfl (by decide) (fun i _ => rfl)
set_option maxRecDepth 100000 in
theorem z_94 {G : px_D} {b : Nat} : tzE G b 94 7 603 := tz_n (n := 6) (f := fun _ => 0) rfl (by decide) (fun i _ => rfl)
set_option maxRecDepth 100000 in
theorem z_95 {G : px_D} {b : Nat} : tzE G b 95 9 0 := tz_o (F := F_X3_init b 95 96) rfl (by decide) (fun k hk => match k, hk with
  | 0, _ => (congrArg (fun x => Value.ref (b + x)) pz_96).symm
  | 1, _ => rfl
  | 2, _ => (congrArg (fun x => Value.ref (b + x)) pz_97).symm
  | 3, _ => (congrArg (fun x => Value.ref (b + x)) pz_98).symm
  | 4, _ => rfl
  | k + 5, h => absurd h (by omega))
set_option maxRecDepth 100000 in
theorem z_96 {G : px_D} {b : Nat} : tzE G b 96 9 1 := tz_i (n := 1200) (f := fun _ => 0) rfl (by decide) (fun i _ => rfl)
set_option maxRecDepth 100000 in
theorem z_97 {G : px_D} {b : Nat} : tzE G b 97 9 3 := tz_i (n := 8) (f := fun _ => 0) rfl (by decide) (fun i _ => rfl)
set_option maxRecDepth 100000 in
theorem z_98 {G : px_D} {b : Nat} : tzE G b 98 9 4 := tz_l (n := 16) (f := fun _ => 0) rfl (by decide) (fun i _ => rfl)
set_option maxRecDepth 100000 in
theorem z_99 {G : px_D} {b : Nat} : tzE G b 99 5 13 := tz_i (n := 16) (f := fun _ => 0) rfl (by decide) (fun i _ => rfl)
set_option maxRecDepth 100000 in
theorem z_100 {G : px_D} {b : Nat} : tzE G b 100 5 14 := tz_i (n := 7) (f := fun _ => 0) rfl (by decide) (fun i _ => rfl)
set_option maxRecDepth 100000 in
theorem z_101 {G : px_D} {b : Nat} : tzE G b 101 5 15 := tz_i (n := 6) (f := fun _ => 0) rfl (by decide) (fun i _ => rfl)
set_option maxRecDepth 100000 in
theorem z_102 {G : px_D} {b : Nat} : tzE G b 102 42 0 := tz_o (F := F_X6_init b 4 103) rfl (by decide) (fun k hk => match k, hk with
  | 0, _ => (congrArg (fun x => Value.ref (b + x)) pz_4).symm
  | 1, _ => rfl
  | 2, _ => (congrArg (fun x => Value.ref (b + x)) pz_103).symm
  | 3, _ => (congrArg (fun x => Value.ref (b + x)) pz_104).symm
  | 4, _ => (congrArg (fun x => Value.ref (b + x)) pz_105).symm
  | 5, _ => (congrArg (fun x => Value.ref (b + x)) pz_106).symm
  | 6, _ => (congrArg (fun x => Value.ref (b + x)) pz_107).symm
  | 7, _ => (congrArg (fun x => Value.ref (b + x)) pz_108).symm
  | 8, _ => (congrArg (fun x => Value.ref (b + x)) pz_109).symm
  | 9, _ => (congrArg (fun x => Value.ref (b + x)) pz_110).symm
  | k + 10, h => absurd h (by omega))
set_option maxRecDepth 100000 in
theorem z_103 {G : px_D} {b : Nat} : tzE G b 103 42 3 := tz_i (n := 48) (f := rw_ 0 (-1) 48) rfl (by decide) (fun i _ => rfl)
set_option maxRecDepth 100000 in
theorem z_104 {G : px_D} {b : Nat} : tzE G b 104 42 4 := tz_i (n := 48) (f := rw_ 0 (-1) 48) rfl (by decide) (fun i _ => rfl)
set_option maxRecDepth 100000 in
theorem z_105 {G : px_D} {b : Nat} : tzE G b 105 42 5 := tz_i (n := 10) (f := fun _ => 0) rfl (by decide) (fun i _ => rfl)
set_option maxRecDepth 100000 in
theorem z_106 {G : px_D} {b : Nat} : tzE G b 106 42 6 := tz_f (n := 10) (f := rw_ 0 1112014848 10) rfl (by decide) (fun i _ => rfl)
set_option maxRecDepth 100000 in
theorem z_107 {G : px_D} {b : Nat} : tzE G b 107 42 7 := tz_i (n := 10) (f := fun _ => 0) rfl (by decide) (fun i _ => rfl)
set_option maxRecDepth 100000 in
theorem z_108 {G : px_D} {b : Nat} : tzE G b 108 42 8 := tz_i (n := 10) (f := fun _ => 0) rfl (by decide) (fun i _ => rfl)
set_option maxRecDepth 100000 in
theorem z_109 {G : px_D} {b : Nat} : tzE G b 109 42 9 := tz_i (n := 10) (f := fun _ => 0) rfl (by decide) (fun i _ => rfl)
set_option maxRecDepth 100000 in
theorem z_110 {G : px_D} {b : Nat} : tzE G b 110 42 10 := tz_i (n := 10) (f := fun _ => 0) rfl (by decide) (fun i _ => rfl)
set_option maxRecDepth 100000 in
theorem z_111 {G : px_D} {b : Nat} : tzE G b 111 43 0 := tz_o (F := F_X6_init b 4 112) rfl (by decide) (fun k hk => match k, hk with
  | 0, _ => (congrArg (fun x => Value.ref (b + x)) pz_4).symm
  | 1, _ => rfl
  | 2, _ => (congrArg (fun x => Value.ref (b + x)) pz_112).symm
  | 3, _ => (congrArg (fun x => Value.ref (b + x)) pz_113).symm
  | 4, _ => (congrArg (fun x => Value.ref (b + x)) pz_114).symm
  | 5, _ => (congrArg (fun x => Value.ref (b + x)) pz_115).symm
  | 6, _ => (congrArg (fun x => Value.ref (b + x)) pz_116).symm
  | 7, _ => (congrArg (fun x => Value.ref (b + x)) pz_117).symm
  | 8, _ => (congrArg (fun x => Value.ref (b + x)) pz_118).symm
  | 9, _ => (congrArg (fun x => Value.ref (b + x)) pz_119).symm
  | k + 10, h => absurd h (by omega))
set_option maxRecDepth 100000 in
theorem z_112 {G : px_D} {b : Nat} : tzE G b 112 43 3 := tz_i (n := 48) (f := rw_ 0 (-1) 48) rfl (by decide) (fun i _ => rfl)
set_option maxRecDepth 100000 in
theorem z_113 {G : px_D} {b : Nat} : tzE G b 113 43 4 := tz_i (n := 48) (f := rw_ 0 (-1) 48) rfl (by decide) (fun i _ => rfl)
set_option maxRecDepth 100000 in
theorem z_114 {G : px_D} {b : Nat} : tzE G b 114 43 5 := tz_i (n := 10) (f := fun _ => 0) rfl (by decide) (fun i _ => rfl)
set_option maxRecDepth 100000 in
theorem z_115 {G : px_D} {b : Nat} : tzE G b 115 43 6 := tz_f (n := 10) (f := rw_ 0 1112014848 10) rfl (by decide) (fun i _ => rfl)
set_option maxRecDepth 100000 in
theorem z_116 {G : px_D} {b : Nat} : tzE G b 116 43 7 := tz_i (n := 10) (f := fun _ => 0) rfl (by decide) (fun i _ => rfl)
set_option maxRecDepth 100000 in
theorem z_117 {G : px_D} {b : Nat} : tzE G b 117 43 8 := tz_i (n := 10) (f := fun _ => 0) rfl (by decide) (fun i _ => rfl)
set_option maxRecDepth 100000 in
theorem z_118 {G : px_D} {b : Nat} : tzE G b 118 43 9 := tz_i (n := 10) (f := fun _ => 0) rfl (by decide) (fun i _ => rfl)
set_option maxRecDepth 100000 in
theorem z_119 {G : px_D} {b : Nat} : tzE G b 119 43 10 := tz_i (n := 10) (f := fun _ => 0) rfl (by decide) (fun i _ => rfl)
set_option maxRecDepth 100000 in
theorem z_120 {G : px_D} {b : Nat} : tzE G b 120 3 0 := tz_o (F := F_X1_init b 120 102 121) rfl (by decide) (fun k hk => match k, hk with
  | 0, _ => (congrArg (fun x => Value.ref (b + x)) pz_102).symm
  | 1, _ => (congrArg (fun x => Value.ref (b + x)) pz_121).symm
  | 2, _ => (congrArg (fun x => Value.ref (b + x)) pz_122).symm
  | 3, _ => (congrArg (fun x => Value.ref (b + x)) pz_123).symm
  | 4, _ => rfl
  | 5, _ => rfl
  | 6, _ => (congrArg (fun x => Value.ref (b + x)) pz_124).symm
  | k + 7, h => absurd h (by omega))
set_option maxRecDepth 100000 in
theorem z_121 {G : px_D} {b : Nat} : tzE G b 121 3 2 := tz_i (n := 48) (f := fun _ => 0) rfl (by decide) (fun i _ => rfl)
set_option maxRecDepth 100000 in
theorem z_122 {G : px_D} {b : Nat} : tzE G b 122 3 3 := tz_i (n := 48) (f := fun _ => 0) rfl (by decide) (fun i _ => rfl)
set_option maxRecDepth 100000 in
theorem z_123 {G : px_D} {b : Nat} : tzE G b 123 3 4 := tz_i (n := 3) (f := fun _ => 0) rfl (by decide) (fun i _ => rfl)
set_option maxRecDepth 100000 in
theorem z_124 {G : px_D} {b : Nat} : tzE G b 124 3 7 := tz_i (n := 5) (f := fun _ => 0) rfl (by decide) (fun i _ => rfl)
set_option maxRecDepth 100000 in
theorem z_125 {G : px_D} {b : Nat} : tzE G b 125 0 8 := tz_r (n := 8) (t := 6) rfl (by decide) (fun i hi => match i, hi with
  | 0, _ => (congrArg (fun x => some (b + x)) pz_126).symm
  | 1, _ => (congrArg (fun x => some (b + x)) pz_135).symm
  | 2, _ => (congrArg (fun x => some (b + x)) pz_144).symm
  | 3, _ => (congrArg (fun x => some (b + x)) pz_153).symm
  | 4, _ => (congrArg (fun x => some (b + x)) pz_162).symm
  | 5, _ => (congrArg (fun x => some (b + x)) pz_171).symm
  | 6, _ => (congrArg (fun x => some (b + x)) pz_180).symm
  | 7, _ => (congrArg (fun x => some (b + x)) pz_189).symm
  | i + 8, h => absurd h (by omega))
set_option maxRecDepth 100000 in
theorem z_126 {G : px_D} {b : Nat} : tzE G b 126 44 0 := tz_o (F := F_X6_init b 4 127) rfl (by decide) (fun k hk => match k, hk with
  | 0, _ => (congrArg (fun x => Value.ref (b + x)) pz_4).symm
  | 1, _ => rfl
  | 2, _ => (congrArg (fun x => Value.ref (b + x)) pz_127).symm
  | 3, _ => (congrArg (fun x => Value.ref (b + x)) pz_128).symm
  | 4, _ => (congrArg (fun x => Value.ref (b + x)) pz_129).symm
  | 5, _ => (congrArg (fun x => Value.ref (b + x)) pz_130).symm
  | 6, _ => (congrArg (fun x => Value.ref (b + x)) pz_131).symm
  | 7, _ => (congrArg (fun x => Value.ref (b + x)) pz_132).symm
  | 8, _ => (congrArg (fun x => Value.ref (b + x)) pz_133).symm
  | 9, _ => (congrArg (fun x => Value.ref (b + x)) pz_134).symm
  | k + 10, h => absurd h (by omega))
set_option maxRecDepth 100000 in
theorem z_127 {G : px_D} {b : Nat} : tzE G b 127 44 3 := tz_i (n := 48) (f := rw_ 0 (-1) 48) rfl (by decide) (fun i _ => rfl)
set_option maxRecDepth 100000 in
theorem z_128 {G : px_D} {b : Nat} : tzE G b 128 44 4 := tz_i (n := 48) (f := rw_ 0 (-1) 48) rfl (by decide) (fun i _ => rfl)
set_option maxRecDepth 100000 in
theorem z_129 {G : px_D} {b : Nat} : tzE G b 129 44 5 := tz_i (n := 10) (f := fun _ => 0) rfl (by decide) (fun i _ => rfl)
set_option maxRecDepth 100000 in
theorem z_130 {G : px_D} {b : Nat} : tzE G b 130 44 6 := tz_f (n := 10) (f := rw_ 0 1112014848 10) rfl (by decide) (fun i _ => rfl)
set_option maxRecDepth 100000 in
theorem z_131 {G : px_D} {b : Nat} : tzE G b 131 44 7 := tz_i (n := 10) (f := fun _ => 0) rfl (by decide) (fun i _ => rfl)
set_option maxRecDepth 100000 in
theorem z_132 {G : px_D} {b : Nat} : tzE G b 132 44 8 := tz_i (n := 10) (f := fun _ => 0) rfl (by decide) (fun i _ => rfl)
set_option maxRecDepth 100000 in
theorem z_133 {G : px_D} {b : Nat} : tzE G b 133 44 9 := tz_i (n := 10) (f := fun _ => 0) rfl (by decide) (fun i _ => rfl)
set_option maxRecDepth 100000 in
theorem z_134 {G : px_D} {b : Nat} : tzE G b 134 44 10 := tz_i (n := 10) (f := fun _ => 0) rfl (by decide) (fun i _ => rfl)
set_option maxRecDepth 100000 in
theorem z_135 {G : px_D} {b : Nat} : tzE G b 135 45 0 := tz_o (F := F_X6_init b 4 136) rfl (by decide) (fun k hk => match k, hk with
  | 0, _ => (congrArg (fun x => Value.ref (b + x)) pz_4).symm
  | 1, _ => rfl
  | 2, _ => (congrArg (fun x => Value.ref (b + x)) pz_136).symm
  | 3, _ => (congrArg (fun x => Value.ref (b + x)) pz_137).symm
  | 4, _ => (congrArg (fun x => Value.ref (b + x)) pz_138).symm
  | 5, _ => (congrArg (fun x => Value.ref (b + x)) pz_139).symm
  | 6, _ => (congrArg (fun x => Value.ref (b + x)) pz_140).symm
  | 7, _ => (congrArg (fun x => Value.ref (b + x)) pz_141).symm
  | 8, _ => (congrArg (fun x => Value.ref (b + x)) pz_142).symm
  | 9, _ => (congrArg (fun x => Value.ref (b + x)) pz_143).symm
  | k + 10, h => absurd h (by omega))
set_option maxRecDepth 100000 in
theorem z_136 {G : px_D} {b : Nat} : tzE G b 136 45 3 := tz_i (n := 48) (f := rw_ 0 (-1) 48) rfl (by decide) (fun i _ => rfl)
set_option maxRecDepth 100000 in
theorem z_137 {G : px_D} {b : Nat} : tzE G b 137 45 4 := tz_i (n := 48) (f := rw_ 0 (-1) 48) rfl (by decide) (fun i _ => rfl)
set_option maxRecDepth 100000 in
theorem z_138 {G : px_D} {b : Nat} : tzE G b 138 45 5 := tz_i (n := 10) (f := fun _ => 0) rfl (by decide) (fun i _ => rfl)
set_option maxRecDepth 100000 in
theorem z_139 {G : px_D} {b : Nat} : tzE G b 139 45 6 := tz_f (n := 10) (f := rw_ 0 1112014848 10) rfl (by decide) (fun i _ => rfl)
set_option maxRecDepth 100000 in
theorem z_140 {G : px_D} {b : Nat} : tzE G b 140 45 7 := tz_i (n := 10) (f := fun _ => 0) rfl (by decide) (fun i _ => rfl)
set_option maxRecDepth 100000 in
theorem z_141 {G : px_D} {b : Nat} : tzE G b 141 45 8 := tz_i (n := 10) (f := fun _ => 0) rfl (by decide) (fun i _ => rfl)
set_option maxRecDepth 100000 in
theorem z_142 {G : px_D} {b : Nat} : tzE G b 142 45 9 := tz_i (n := 10) (f := fun _ => 0) rfl (by decide) (fun i _ => rfl)
set_option maxRecDepth 100000 in
theorem z_143 {G : px_D} {b : Nat} : tzE G b 143 45 10 := tz_i (n := 10) (f := fun _ => 0) rfl (by decide) (fun i _ => rfl)
set_option maxRecDepth 100000 in
theorem z_144 {G : px_D} {b : Nat} : tzE G b 144 46 0 := tz_o (F := F_X6_init b 4 145) rfl (by decide) (fun k hk => match k, hk with
  | 0, _ => (congrArg (fun x => Value.ref (b + x)) pz_4).symm
  | 1, _ => rfl
  | 2, _ => (congrArg (fun x => Value.ref (b + x)) pz_145).symm
  | 3, _ => (congrArg (fun x => Value.ref (b + x)) pz_146).symm
  | 4, _ => (congrArg (fun x => Value.ref (b + x)) pz_147).symm
  | 5, _ => (congrArg (fun x => Value.ref (b + x)) pz_148).symm
  | 6, _ => (congrArg (fun x => Value.ref (b + x)) pz_149).symm
  | 7, _ => (congrArg (fun x => Value.ref (b + x)) pz_150).symm
  | 8, _ => (congrArg (fun x => Value.ref (b + x)) pz_151).symm
  | 9, _ => (congrArg (fun x => Value.ref (b + x)) pz_152).symm
  | k + 10, h => absurd h (by omega))
set_option maxRecDepth 100000 in
theorem z_145 {G : px_D} {b : Nat} : tzE G b 145 46 3 := tz_i (n := 48) (f := rw_ 0 (-1) 48) rfl (by decide) (fun i _ => rfl)
set_option maxRecDepth 100000 in
theorem z_146 {G : px_D} {b : Nat} : tzE G b 146 46 4 := tz_i (n := 48) (f := rw_ 0 (-1) 48) rfl (by decide) (fun i _ => rfl)
set_option maxRecDepth 100000 in
theorem z_147 {G : px_D} {b : Nat} : tzE G b 147 46 5 := tz_i (n := 10) (f := fun _ => 0) rfl (by decide) (fun i _ => rfl)
set_option maxRecDepth 100000 in
theorem z_148 {G : px_D} {b : Nat} : tzE G b 148 46 6 := tz_f (n := 10) (f := rw_ 0 1112014848 10) rfl (by decide) (fun i _ => rfl)
set_option maxRecDepth 100000 in
theorem z_149 {G : px_D} {b : Nat} : tzE G b 149 46 7 := tz_i (n := 10) (f := fun _ => 0) rfl (by decide) (fun i _ => rfl)
set_option maxRecDepth 100000 in
theorem z_150 {G : px_D} {b : Nat} : tzE G b 150 46 8 := tz_i (n := 10) (f := fun _ => 0) rfl (by decide) (fun i _ => rfl)
set_option maxRecDepth 100000 in
theorem z_151 {G : px_D} {b : Nat} : tzE G b 151 46 9 := tz_i (n := 10) (f := fun _ => 0) rfl (by decide) (fun i _ => rfl)
set_option maxRecDepth 100000 in
theorem z_152 {G : px_D} {b : Nat} : tzE G b 152 46 10 := tz_i (n := 10) (f := fun _ => 0) rfl (by decide) (fun i _ => rfl)
set_option maxRecDepth 100000 in
theorem z_153 {G : px_D} {b : Nat} : tzE G b 153 47 0 := tz_o (F := F_X6_init b 4 154) rfl (by decide) (fun k hk => match k, hk with
  | 0, _ => (congrArg (fun x => Value.ref (b + x)) pz_4).symm
  | 1, _ => rfl
  | 2, _ => (congrArg (fun x => Value.ref (b + x)) pz_154).symm
  | 3, _ => (congrArg (fun x => Value.ref (b + x)) pz_155).symm
  | 4, _ => (congrArg (fun x => Value.ref (b + x)) pz_156).symm
  | 5, _ => (congrArg (fun x => Value.ref (b + x)) pz_157).symm
  | 6, _ => (congrArg (fun x => Value.ref (b + x)) pz_158).symm
  | 7, _ => (congrArg (fun x => Value.ref (b + x)) pz_159).symm
  | 8, _ => (congrArg (fun x => Value.ref (b + x)) pz_160).symm
  | 9, _ => (congrArg (fun x => Value.ref (b + x)) pz_161).symm
  | k + 10, h => absurd h (by omega))
set_option maxRecDepth 100000 in
theorem z_154 {G : px_D} {b : Nat} : tzE G b 154 47 3 := tz_i (n := 48) (f := rw_ 0 (-1) 48) rfl (by decide) (fun i _ => rfl)
set_option maxRecDepth 100000 in
theorem z_155 {G : px_D} {b : Nat} : tzE G b 155 47 4 := tz_i (n := 48) (f := rw_ 0 (-1) 48) rfl (by decide) (fun i _ => rfl)
set_option maxRecDepth 100000 in
theorem z_156 {G : px_D} {b : Nat} : tzE G b 156 47 5 := tz_i (n := 10) (f := fun _ => 0) rfl (by decide) (fun i _ => rfl)
set_option maxRecDepth 100000 in
theorem z_157 {G : px_D} {b : Nat} : tzE G b 157 47 6 := tz_f (n := 10) (f := rw_ 0 1112014848 10) rfl (by decide) (fun i _ => rfl)
set_option maxRecDepth 100000 in
theorem z_158 {G : px_D} {b : Nat} : tzE G b 158 47 7 := tz_i (n := 10) (f := fun _ => 0) rfl (by decide) (fun i _ => rfl)
set_option maxRecDepth 100000 in
theorem z_159 {G : px_D} {b : Nat} : tzE G b 159 47 8 := tz_i (n := 10) (f := fun _ => 0) rfl (by decide) (fun i _ => rfl)
set_option maxRecDepth 100000 in
theorem z_160 {G : px_D} {b : Nat} : tzE G b 160 47 9 := tz_i (n := 10) (f := fun _ => 0) rfl (by decide) (fun i _ => rfl)
set_option maxRecDepth 100000 in
theorem z_161 {G : px_D} {b : Nat} : tzE G b 161 47 10 := tz_i (n := 10) (f := fun _ => 0) rfl (by decide) (fun i _ => rfl)
set_option maxRecDepth 100000 in
theorem z_162 {G : px_D} {b : Nat} : tzE G b 162 48 0 := tz_o (F := F_X6_init b 4 163) rfl (by decide) (fun k hk => match k, hk with
  | 0, _ => (congrArg (fun x => Value.ref (b + x)) pz_4).symm
  | 1, _ => rfl
  | 2, _ => (congrArg (fun x => Value.ref (b + x)) pz_163).symm
  | 3, _ => (congrArg (fun x => Value.ref (b + x)) pz_164).symm
  | 4, _ => (congrArg (fun x => Value.ref (b + x)) pz_165).symm
  | 5, _ => (congrArg (fun x => Value.ref (b + x)) pz_166).symm
  | 6, _ => (congrArg (fun x => Value.ref (b + x)) pz_167).symm
  | 7, _ => (congrArg (fun x => Value.ref (b + x)) pz_168).symm
  | 8, _ => (congrArg (fun x => Value.ref (b + x)) pz_169).symm
  | 9, _ => (congrArg (fun x => Value.ref (b + x)) pz_170).symm
  | k + 10, h => absurd h (by omega))
set_option maxRecDepth 100000 in
theorem z_163 {G : px_D} {b : Nat} : tzE G b 163 48 3 := tz_i (n := 48) (f := rw_ 0 (-1) 48) rfl (by decide) (fun i _ => rfl)
set_option maxRecDepth 100000 in
theorem z_164 {G : px_D} {b : Nat} : tzE G b 164 48 4 := tz_i (n := 48) (f := rw_ 0 (-1) 48) rfl (by decide) (fun i _ => rfl)
set_option maxRecDepth 100000 in
theorem z_165 {G : px_D} {b : Nat} : tzE G b 165 48 5 := tz_i (n := 10) (f := fun _ => 0) rfl (by decide) (fun i _ => rfl)
set_option maxRecDepth 100000 in
theorem z_166 {G : px_D} {b : Nat} : tzE G b 166 48 6 := tz_f (n := 10) (f := rw_ 0 1112014848 10) rfl (by decide) (fun i _ => rfl)
set_option maxRecDepth 100000 in
theorem z_167 {G : px_D} {b : Nat} : tzE G b 167 48 7 := tz_i (n := 10) (f := fun _ => 0) rfl (by decide) (fun i _ => rfl)
set_option maxRecDepth 100000 in
theorem z_168 {G : px_D} {b : Nat} : tzE G b 168 48 8 := tz_i (n := 10) (f := fun _ => 0) rfl (by decide) (fun i _ => rfl)
set_option maxRecDepth 100000 in
theorem z_169 {G : px_D} {b : Nat} : tzE G b 169 48 9 := tz_i (n := 10) (f := fun _ => 0) rfl (by decide) (fun i _ => rfl)
set_option maxRecDepth 100000 in
theorem z_170 {G : px_D} {b : Nat} : tzE G b 170 48 10 := tz_i (n := 10) (f := fun _ => 0) rfl (by decide) (fun i _ => rfl)
set_option maxRecDepth 100000 in
theorem z_171 {G : px_D} {b : Nat} : tzE G b 171 49 0 := tz_o (F := F_X6_init b 4 172) rfl (by decide) (fun k hk => match k, hk with
  | 0, _ => (congrArg (fun x => Value.ref (b + x)) pz_4).symm
  | 1, _ => rfl
  | 2, _ => (congrArg (fun x => Value.ref (b + x)) pz_172).symm
  | 3, _ => (congrArg (fun x => Value.ref (b + x)) pz_173).symm
  | 4, _ => (congrArg (fun x => Value.ref (b + x)) pz_174).symm
  | 5, _ => (congrArg (fun x => Value.ref (b + x)) pz_175).symm
  | 6, _ => (congrArg (fun x => Value.ref (b + x)) pz_176).symm
  | 7, _ => (congrArg (fun x => Value.ref (b + x)) pz_177).symm
  | 8, _ => (congrArg (fun x => Value.ref (b + x)) pz_178).symm
  | 9, _ => (congrArg (fun x => Value.ref (b + x)) pz_179).symm
  | k + 10, h => absurd h (by omega))
set_option maxRecDepth 100000 in
theorem z_172 {G : px_D} {b : Nat} : tzE G b 172 49 3 := tz_i (n := 48) (f := rw_ 0 (-1) 48) rfl (by decide) (fun i _ => rfl)
set_option maxRecDepth 100000 in
theorem z_173 {G : px_D} {b : Nat} : tzE G b 173 49 4 := tz_i (n := 48) (f := rw_ 0 (-1) 48) rfl (by decide) (fun i _ => rfl)
set_option maxRecDepth 100000 in
theorem z_174 {G : px_D} {b : Nat} : tzE G b 174 49 5 := tz_i (n := 10) (f := fun _ => 0) rfl (by decide) (fun i _ => rfl)
set_option maxRecDepth 100000 in
theorem z_175 {G : px_D} {b : Nat} : tzE G b 175 49 6 := tz_f (n := 10) (f := rw_ 0 1112014848 10) rfl (by decide) (fun i _ => rfl)
set_option maxRecDepth 100000 in
theorem z_176 {G : px_D} {b : Nat} : tzE G b 176 49 7 := tz_i (n := 10) (f := fun _ => 0) rfl (by decide) (fun i _ => rfl)
set_option maxRecDepth 100000 in
theorem z_177 {G : px_D} {b : Nat} : tzE G b 177 49 8 := tz_i (n := 10) (f := fun _ => 0) rfl (by decide) (fun i _ => rfl)
set_option maxRecDepth 100000 in
theorem z_178 {G : px_D} {b : Nat} : tzE G b 178 49 9 := tz_i (n := 10) (f := fun _ => 0) rfl (by decide) (fun i _ => rfl)
set_option maxRecDepth 100000 in
theorem z_179 {G : px_D} {b : Nat} : tzE G b 179 49 10 := tz_i (n := 10) (f := fun _ => 0) rfl (by decide) (fun i _ => rfl)
set_option maxRecDepth 100000 in
theorem z_180 {G : px_D} {b : Nat} : tzE G b 180 50 0 := tz_o (F := F_X6_init b 4 181) rfl (by decide) (fun k hk => match k, hk with
  | 0, _ => (congrArg (fun x => Value.ref (b + x)) pz_4).symm
  | 1, _ => rfl
  | 2, _ => (congrArg (fun x => Value.ref (b + x)) pz_181).symm
  | 3, _ => (congrArg (fun x => Value.ref (b + x)) pz_182).symm
  | 4, _ => (congrArg (fun x => Value.ref (b + x)) pz_183).symm
  | 5, _ => (congrArg (fun x => Value.ref (b + x)) pz_184).symm
  | 6, _ => (congrArg (fun x => Value.ref (b + x)) pz_185).symm
  | 7, _ => (congrArg (fun x => Value.ref (b + x)) pz_186).symm
  | 8, _ => (congrArg (fun x => Value.ref (b + x)) pz_187).symm
  | 9, _ => (congrArg (fun x => Value.ref (b + x)) pz_188).symm
  | k + 10, h => absurd h (by omega))
set_option maxRecDepth 100000 in
theorem z_181 {G : px_D} {b : Nat} : tzE G b 181 50 3 := tz_i (n := 48) (f := rw_ 0 (-1) 48) rfl (by decide) (fun i _ => rfl)
set_option maxRecDepth 100000 in
theorem z_182 {G : px_D} {b : Nat} : tzE G b 182 50 4 := tz_i (n := 48) (f := rw_ 0 (-1) 48) rfl (by decide) (fun i _ => rfl)
set_option maxRecDepth 100000 in
theorem z_183 {G : px_D} {b : Nat} : tzE G b 183 50 5 := tz_i (n := 10) (f := fun _ => 0) rfl (by decide) (fun i _ => rfl)
set_option maxRecDepth 100000 in
theorem z_184 {G : px_D} {b : Nat} : tzE G b 184 50 6 := tz_f (n := 10) (f := rw_ 0 1112014848 10) rfl (by decide) (fun i _ => rfl)
set_option maxRecDepth 100000 in
theorem z_185 {G : px_D} {b : Nat} : tzE G b 185 50 7 := tz_i (n := 10) (f := fun _ => 0) rfl (by decide) (fun i _ => rfl)
set_option maxRecDepth 100000 in
theorem z_186 {G : px_D} {b : Nat} : tzE G b 186 50 8 := tz_i (n := 10) (f := fun _ => 0) rfl (by decide) (fun i _ => rfl)
set_option maxRecDepth 100000 in
theorem z_187 {G : px_D} {b : Nat} : tzE G b 187 50 9 := tz_i (n := 10) (f := fun _ => 0) rfl (by decide) (fun i _ => rfl)
set_option maxRecDepth 100000 in
theorem z_188 {G : px_D} {b : Nat} : tzE G b 188 50 10 := tz_i (n := 10) (f := fun _ => 0) rfl (by decide) (fun i _ => rfl)
set_option maxRecDepth 100000 in
theorem z_189 {G : px_D} {b : Nat} : tzE G b 189 51 0 := tz_o (F := F_X6_init b 4 190) rfl (by decide) (fun k hk => match k, hk with
  | 0, _ => (congrArg (fun x => Value.ref (b + x)) pz_4).symm
  | 1, _ => rfl
  | 2, _ => (congrArg (fun x => Value.ref (b + x)) pz_190).symm
  | 3, _ => (congrArg (fun x => Value.ref (b + x)) pz_191).symm
  | 4, _ => (congrArg (fun x => Value.ref (b + x)) pz_192).symm
  | 5, _ => (congrArg (fun x => Value.ref (b + x)) pz_193).symm
  | 6, _ => (congrArg (fun x => Value.ref (b + x)) pz_194).symm
  | 7, _ => (congrArg (fun x => Value.ref (b + x)) pz_195).symm
  | 8, _ => (congrArg (fun x => Value.ref (b + x)) pz_196).symm
  | 9, _ => (congrArg (fun x => Value.ref (b + x)) pz_197).symm
  | k + 10, h => absurd h (by omega))
set_option maxRecDepth 100000 in
theorem z_190 {G : px_D} {b : Nat} : tzE G b 190 51 3 := tz_i (n := 48) (f := rw_ 0 (-1) 48) rfl (by decide) (fun i _ => rfl)
set_option maxRecDepth 100000 in
theorem z_191 {G : px_D} {b : Nat} : tzE G b 191 51 4 := tz_i (n := 48) (f := rw_ 0 (-1) 48) rfl (by decide) (fun i _ => rfl)
set_option maxRecDepth 100000 in
theorem z_192 {G : px_D} {b : Nat} : tzE G b 192 51 5 := tz_i (n := 10) (f := fun _ => 0) rfl (by decide) (fun i _ => rfl)
set_option maxRecDepth 100000 in
theorem z_193 {G : px_D} {b : Nat} : tzE G b 193 51 6 := tz_f (n := 10) (f := rw_ 0 1112014848 10) rfl (by decide) (fun i _ => rfl)
set_option maxRecDepth 100000 in
theorem z_194 {G : px_D} {b : Nat} : tzE G b 194 51 7 := tz_i (n := 10) (f := fun _ => 0) rfl (by decide) (fun i _ => rfl)
set_option maxRecDepth 100000 in
theorem z_195 {G : px_D} {b : Nat} : tzE G b 195 51 8 := tz_i (n := 10) (f := fun _ => 0) rfl (by decide) (fun i _ => rfl)
set_option maxRecDepth 100000 in
theorem z_196 {G : px_D} {b : Nat} : tzE G b 196 51 9 := tz_i (n := 10) (f := fun _ => 0) rfl (by decide) (fun i _ => rfl)
set_option maxRecDepth 100000 in
theorem z_197 {G : px_D} {b : Nat} : tzE G b 197 51 10 := tz_i (n := 10) (f := fun _ => 0) rfl (by decide) (fun i _ => rfl)
set_option maxRecDepth 100000 in
theorem z_198 {G : px_D} {b : Nat} : tzE G b 198 0 11 := tz_r (n := 3) (t := 7) rfl (by decide) (fun i hi => match i, hi with
  | 0, _ => (congrArg (fun x => some (b + x)) pz_199).symm
  | 1, _ => (congrArg (fun x => some (b + x)) pz_201).symm
  | 2, _ => (congrArg (fun x => some (b + x)) pz_203).symm
  | i + 3, h => absurd h (by omega))
set_option maxRecDepth 100000 in
theorem z_199 {G : px_D} {b : Nat} : tzE G b 199 52 0 := tz_o (F := F_X7_init b 199 200) rfl (by decide) (fun k hk => match k, hk with
  | 0, _ => (congrArg (fun x => Value.ref (b + x)) pz_200).symm
  | 1, _ => rfl
  | 2, _ => rfl
  | k + 3, h => absurd h (by omega))
set_option maxRecDepth 100000 in
theorem z_200 {G : px_D} {b : Nat} : tzE G b 200 52 1 := tz_i (n := 20) (f := fun _ => 0) rfl (by decide) (fun i _ => rfl)
set_option maxRecDepth 100000 in
theorem z_201 {G : px_D} {b : Nat} : tzE G b 201 53 0 := tz_o (F := F_X7_init b 201 202) rfl (by decide) (fun k hk => match k, hk with
  | 0, _ => (congrArg (fun x => Value.ref (b + x)) pz_202).symm
  | 1, _ => rfl
  | 2, _ => rfl
  | k + 3, h => absurd h (by omega))
set_option maxRecDepth 100000 in
theorem z_202 {G : px_D} {b : Nat} : tzE G b 202 53 1 := tz_i (n := 20) (f := fun _ => 0) rfl (by decide) (fun i _ => rfl)
set_option maxRecDepth 100000 in
theorem z_203 {G : px_D} {b : Nat} : tzE G b 203 54 0 := tz_o (F := F_X7_init b 203 204) rfl (by decide) (fun k hk => match k, hk with
  | 0, _ => (congrArg (fun x => Value.ref (b + x)) pz_204).symm
  | 1, _ => rfl
  | 2, _ => rfl
  | k + 3, h => absurd h (by omega))
set_option maxRecDepth 100000 in
theorem z_204 {G : px_D} {b : Nat} : tzE G b 204 54 1 := tz_i (n := 20) (f := fun _ => 0) rfl (by decide) (fun i _ => rfl)
set_option maxRecDepth 100000 in
theorem z_205 {G : px_D} {b : Nat} : tzE G b 205 55 0 := tz_o (F := F_X12_init b 205 206) rfl (by decide) (fun k hk => match k, hk with
  | 0, _ => rfl
  | 1, _ => (congrArg (fun x => Value.ref (b + x)) pz_206).symm
  | 2, _ => (congrArg (fun x => Value.ref (b + x)) pz_207).symm
  | 3, _ => (congrArg (fun x => Value.ref (b + x)) pz_208).symm
  | 4, _ => (congrArg (fun x => Value.ref (b + x)) pz_209).symm
  | 5, _ => (congrArg (fun x => Value.ref (b + x)) pz_210).symm
  | 6, _ => (congrArg (fun x => Value.ref (b + x)) pz_211).symm
  | 7, _ => (congrArg (fun x => Value.ref (b + x)) pz_212).symm
  | 8, _ => (congrArg (fun x => Value.ref (b + x)) pz_213).symm
  | 9, _ => (congrArg (fun x => Value.ref (b + x)) pz_214).symm
  | 10, _ => (congrArg (fun x => Value.ref (b + x)) pz_215).symm
  | 11, _ => (congrArg (fun x => Value.ref (b + x)) pz_216).symm
  | 12, _ => (congrArg (fun x => Value.ref (b + x)) pz_217).symm
  | 13, _ => (congrArg (fun x => Value.ref (b + x)) pz_218).symm
  | 14, _ => rfl
  | 15, _ => rfl
  | 16, _ => (congrArg (fun x => Value.ref (b + x)) pz_219).symm
  | 17, _ => rfl
  | 18, _ => rfl
  | 19, _ => rfl
  | 20, _ => rfl
  | 21, _ => rfl
  | 22, _ => rfl
  | 23, _ => rfl
  | 24, _ => rfl
  | 25, _ => rfl
  | 26, _ => rfl
  | 27, _ => rfl
  | 28, _ => rfl
  | 29, _ => rfl
  | 30, _ => (congrArg (fun x => Value.ref (b + x)) pz_220).symm
  | 31, _ => (congrArg (fun x => Value.ref (b + x)) pz_221).symm
  | 32, _ => (congrArg (fun x => Value.ref (b + x)) pz_222).symm
  | 33, _ => (congrArg (fun x => Value.ref (b + x)) pz_223).symm
  | 34, _ => (congrArg (fun x => Value.ref (b + x)) pz_224).symm
  | 35, _ => rfl
  | 36, _ => (congrArg (fun x => Value.ref (b + x)) pz_225).symm
  | 37, _ => (congrArg (fun x => Value.ref (b + x)) pz_226).symm
  | 38, _ => rfl
  | 39, _ => (congrArg (fun x => Value.ref (b + x)) pz_227).symm
  | 40, _ => (congrArg (fun x => Value.ref (b + x)) pz_228).symm
  | 41, _ => (congrArg (fun x => Value.ref (b + x)) pz_229).symm
  | 42, _ => (congrArg (fun x => Value.ref (b + x)) pz_230).symm
  | 43, _ => rfl
  | 44, _ => rfl
  | 45, _ => rfl
  | 46, _ => (congrArg (fun x => Value.ref (b + x)) pz_231).symm
  | 47, _ => (congrArg (fun x => Value.ref (b + x)) pz_232).symm
  | 48, _ => (congrArg (fun x => Value.ref (b + x)) pz_233).symm
  | 49, _ => (congrArg (fun x => Value.ref (b + x)) pz_234).symm
  | 50, _ => (congrArg (fun x => Value.ref (b + x)) pz_235).symm
  | 51, _ => (congrArg (fun x => Value.ref (b + x)) pz_236).symm
  | 52, _ => (congrArg (fun x => Value.ref (b + x)) pz_237).symm
  | 53, _ => (congrArg (fun x => Value.ref (b + x)) pz_238).symm
  | k + 54, h => absurd h (by omega))
set_option maxRecDepth 100000 in
theorem z_206 {G : px_D} {b : Nat} : tzE G b 206 55 2 := tz_l (n := 12) (f := fun _ => 0) rfl (by decide) (fun i _ => rfl)
set_option maxRecDepth 100000 in
theorem z_207 {G : px_D} {b : Nat} : tzE G b 207 55 3 := tz_i (n := 72) (f := fun _ => 0) rfl (by decide) (fun i _ => rfl)
set_option maxRecDepth 100000 in
theorem z_208 {G : px_D} {b : Nat} : tzE G b 208 55 4 := tz_i (n := 36) (f := fun _ => 0) rfl (by decide) (fun i _ => rfl)
set_option maxRecDepth 100000 in
theorem z_209 {G : px_D} {b : Nat} : tzE G b 209 55 5 := tz_l (n := 16) (f := fun _ => 0) rfl (by decide) (fun i _ => rfl)
set_option maxRecDepth 100000 in
theorem z_210 {G : px_D} {b : Nat} : tzE G b 210 55 6 := tz_l (n := 20) (f := fun _ => 0) rfl (by decide) (fun i _ => rfl)
set_option maxRecDepth 100000 in
theorem z_211 {G : px_D} {b : Nat} : tzE G b 211 55 7 := tz_i (n := 20) (f := fun _ => 0) rfl (by decide) (fun i _ => rfl)
set_option maxRecDepth 100000 in
theorem z_212 {G : px_D} {b : Nat} : tzE G b 212 55 8 := tz_i (n := 20) (f := fun _ => 0) rfl (by decide) (fun i _ => rfl)
set_option maxRecDepth 100000 in
theorem z_213 {G : px_D} {b : Nat} : tzE G b 213 55 9 := tz_i (n := 20) (f := fun _ => 0) rfl (by decide) (fun i _ => rfl)
set_option maxRecDepth 100000 in
theorem z_214 {G : px_D} {b : Nat} : tzE G b 214 55 10 := tz_i (n := 20) (f := fun _ => 0) rfl (by decide) (fun i _ => rfl)
set_option maxRecDepth 100000 in
theorem z_215 {G : px_D} {b : Nat} : tzE G b 215 55 11 := tz_i (n := 256) (f := fun _ => 0) rfl (by decide) (fun i _ => rfl)
set_option maxRecDepth 100000 in
theorem z_216 {G : px_D} {b : Nat} : tzE G b 216 55 12 := tz_i (n := 14) rfl (by decide) (fun i hi => match i, hi with
  | 0, _ => rfl
  | 1, _ => rfl
  | 2, _ => rfl
  | 3, _ => rfl
  | 4, _ => rfl
  | 5, _ => rfl
  | 6, _ => rfl
  | 7, _ => rfl
  | 8, _ => rfl
  | 9, _ => rfl
  | 10, _ => rfl
  | 11, _ => rfl
  | 12, _ => rfl
  | 13, _ => rfl
  | i + 14, h => absurd h (by omega))
set_option maxRecDepth 100000 in
theorem z_217 {G : px_D} {b : Nat} : tzE G b 217 55 13 := tz_i (n := 2600) (f := fun _ => 0) rfl (by decide) (fun i _ => rfl)
set_option maxRecDepth 100000 in
theorem z_218 {G : px_D} {b : Nat} : tzE G b 218 55 14 := tz_i (n := 2600) (f := fun _ => 0) rfl (by decide) (fun i _ => rfl)
set_option maxRecDepth 100000 in
theorem z_219 {G : px_D} {b : Nat} : tzE G b 219 55 17 := tz_i (n := 1200) (f := fun _ => 0) rfl (by decide) (fun i _ => rfl)
set_option maxRecDepth 100000 in
theorem z_220 {G : px_D} {b : Nat} : tzE G b 220 55 31 := tz_i (n := 48) (f := rw_ 0 (-1) 48) rfl (by decide) (fun i _ => rfl)
set_option maxRecDepth 100000 in
theorem z_221 {G : px_D} {b : Nat} : tzE G b 221 55 32 := tz_i (n := 48) (f := rw_ 0 (-1) 48) rfl (by decide) (fun i _ => rfl)
set_option maxRecDepth 100000 in
theorem z_222 {G : px_D} {b : Nat} : tzE G b 222 55 33 := tz_i (n := 10) (f := fun _ => 0) rfl (by decide) (fun i _ => rfl)
set_option maxRecDepth 100000 in
theorem z_223 {G : px_D} {b : Nat} : tzE G b 223 55 34 := tz_i (n := 10) (f := fun _ => 0) rfl (by decide) (fun i _ => rfl)
set_option maxRecDepth 100000 in
theorem z_224 {G : px_D} {b : Nat} : tzE G b 224 55 35 := tz_f (n := 10) (f := fun _ => 0) rfl (by decide) (fun i _ => rfl)
set_option maxRecDepth 100000 in
theorem z_225 {G : px_D} {b : Nat} : tzE G b 225 55 37 := tz_i (n := 936) (f := fun _ => 0) rfl (by decide) (fun i _ => rfl)
set_option maxRecDepth 100000 in
theorem z_226 {G : px_D} {b : Nat} : tzE G b 226 55 38 := tz_f (n := 80) (f := fun _ => 0) rfl (by decide) (fun i _ => rfl)
set_option maxRecDepth 100000 in
theorem z_227 {G : px_D} {b : Nat} : tzE G b 227 55 40 := tz_i (n := 16) (f := fun _ => 0) rfl (by decide) (fun i _ => rfl)
set_option maxRecDepth 100000 in
theorem z_228 {G : px_D} {b : Nat} : tzE G b 228 55 41 := tz_l (n := 1300) (f := fun _ => 0) rfl (by decide) (fun i _ => rfl)
set_option maxRecDepth 100000 in
theorem z_229 {G : px_D} {b : Nat} : tzE G b 229 55 42 := tz_i (n := 3) (f := fun _ => 0) rfl (by decide) (fun i _ => rfl)
set_option maxRecDepth 100000 in
theorem z_230 {G : px_D} {b : Nat} : tzE G b 230 55 43 := tz_i (n := 3) (f := fun _ => 0) rfl (by decide) (fun i _ => rfl)
set_option maxRecDepth 100000 in
theorem z_231 {G : px_D} {b : Nat} : tzE G b 231 55 47 := tz_i (n := 48) (f := fun _ => 0) rfl (by decide) (fun i _ => rfl)
set_option maxRecDepth 100000 in
theorem z_232 {G : px_D} {b : Nat} : tzE G b 232 55 48 := tz_i (n := 48) (f := fun _ => 0) rfl (by decide) (fun i _ => rfl)
set_option maxRecDepth 100000 in
theorem z_233 {G : px_D} {b : Nat} : tzE G b 233 55 49 := tz_i (n := 5) (f := fun _ => 0) rfl (by decide) (fun i _ => rfl)
set_option maxRecDepth 100000 in
theorem z_234 {G : px_D} {b : Nat} : tzE G b 234 55 50 := tz_i (n := 10) (f := fun _ => 0) rfl (by decide) (fun i _ => rfl)
set_option maxRecDepth 100000 in
theorem z_235 {G : px_D} {b : Nat} : tzE G b 235 55 51 := tz_i (n := 3) rfl (by decide) (fun i hi => match i, hi with
  | 0, _ => rfl
  | 1, _ => rfl
  | 2, _ => rfl
  | i + 3, h => absurd h (by omega))
set_option maxRecDepth 100000 in
theorem z_236 {G : px_D} {b : Nat} : tzE G b 236 55 52 := tz_i (n := 3) (f := fun _ => 0) rfl (by decide) (fun i _ => rfl)
set_option maxRecDepth 100000 in
theorem z_237 {G : px_D} {b : Nat} : tzE G b 237 55 53 := tz_l (n := 60) (f := fun _ => 0) rfl (by decide) (fun i _ => rfl)
set_option maxRecDepth 100000 in
theorem z_238 {G : px_D} {b : Nat} : tzE G b 238 55 54 := tz_z (n := 60) (f := fun _ => 0) rfl (by decide) (fun i _ => rfl)
