/-! the first memory holds U0 -/
def tzL (G : px_D) (b : Nat) : List (Nat × Nat) → Nat → Prop
  | [], _ => True
  | q :: t, n => tzE G b n q.1 q.2 ∧ tzL G b t (n + 1)
theorem tzL_at {G : px_D} {b : Nat} : ∀ (l : List (Nat × Nat)) (n i : Nat) (q : Nat × Nat), tzL G b l n → l[i]? = some q → tzE G b (n + i) q.1 q.2
  | [], n, i, q, _, h => by simp at h
  | p :: t, n, 0, q, hl, h => by
    cases h
    exact hl.1
  | p :: t, n, i + 1, q, hl, h => by
    have := tzL_at t (n + 1) i q hl.2 h
    rw [show n + (i + 1) = n + 1 + i by omega]
    exact this
set_option maxRecDepth 100000 in
theorem z_list {G : px_D} {b : Nat} : tzL G b tbP 0 :=
  And.intro z_0 (And.intro z_1 (And.intro z_2 (And.intro z_3 (And.intro z_4 (And.intro z_5 (And.intro z_6 (And.intro z_7 (And.intro z_8 (And.intro z_9 (And.intro z_10 (And.intro z_11 (And.intro z_12 (And.intro z_13 (And.intro z_14 (And.intro z_15 (And.intro z_16 (And.intro z_17 (And.intro z_18 (And.intro z_19 (And.intro z_20 (And.intro z_21 (And.intro z_22 (And.intro z_23 (And.intro z_24 (And.intro z_25 (And.intro z_26 (And.intro z_27 (And.intro z_28 (And.intro z_29 (And.intro z_30 (And.intro z_31 (And.intro z_32 (And.intro z_33 (And.intro z_34 (And.intro z_35 (And.intro z_36 (And.intro z_37 (And.intro z_38 (And.intro z_39 (And.intro z_40 (And.intro z_41 (And.intro z_42 (And.intro z_43 (And.intro z_44 (And.intro z_45 (And.intro z_46 (And.intro z_47 (And.intro z_48 (And.intro z_49 (And.intro z_50 (And.intro z_51 (And.intro z_52 (And.intro z_53 (And.intro z_54 (And.intro z_55 (And.intro z_56 (And.intro z_57 (And.intro z_58 (And.intro z_59 (And.intro z_60 (And.intro z_61 (And.intro z_62 (And.intro z_63 (And.intro z_64 (And.intro z_65 (And.intro z_66 (And.intro z_67 (And.intro z_68 (And.intro z_69 (And.intro z_70 (And.intro z_71 (And.intro z_72 (And.intro z_73 (And.intro z_74 (And.intro z_75 (And.intro z_76 (And.intro z_77 (And.intro z_78 (And.intro z_79 (And.intro z_80 (And.intro z_81 (And.intro z_82 (And.intro z_83 (And.intro z_84 (And.intro z_85 (And.intro z_86 (And.intro z_87 (And.intro z_88 (And.intro z_89 (And.intro z_90 (And.intro z_91 (And.intro z_92 (And.intro z_93 (And.intro z_94 (And.intro z_95 (And.intro z_96 (And.intro z_97 (And.intro z_98 (And.intro z_99 (And.intro z_100 (And.intro z_101 (And.intro z_102 (And.intro z_103 (And.intro z_104 (And.intro z_105 (And.intro z_106 (And.intro z_107 (And.intro z_108 (And.intro z_109 (And.intro z_110 (And.intro z_111 (And.intro z_112 (And.intro z_113 (And.intro z_114 (And.intro z_115 (And.intro z_116 (And.intro z_117 (And.intro z_118 (And.intro z_119 (And.intro z_120 (And.intro z_121 (And.intro z_122 (And.intro z_123 (And.intro z_124 (And.intro z_125 (And.intro z_126 (And.intro z_127 (And.intro z_128 (And.intro z_129 (And.intro z_130 (And.intro z_131 (And.intro z_132 (And.intro z_133 (And.intro z_134 (And.intro z_135 (And.intro z_136 (And.intro z_137 (And.intro z_138 (And.intro z_139 (And.intro z_140 (And.intro z_141 (And.intro z_142 (And.intro z_143 (And.intro z_144 (And.intro z_145 (And.intro z_146 (And.intro z_147 (And.intro z_148 (And.intro z_149 (And.intro z_150 (And.intro z_151 (And.intro z_152 (And.intro z_153 (And.intro z_154 (And.intro z_155 (And.intro z_156 (And.intro z_157 (And.intro z_158 (And.intro z_159 (And.intro z_160 (And.intro z_161 (And.intro z_162 (And.intro z_163 (And.intro z_164 (And.intro z_165 (And.intro z_166 (And.intro z_167 (And.intro z_168 (And.intro z_169 (And.intro z_170 (And.intro z_171 (And.intro z_172 (And.intro z_173 (And.intro z_174 (And.intro z_175 (And.intro z_176 (And.intro z_177 (And.intro z_178 (And.intro z_179 (And.intro z_180 (And.intro z_181 (And.intro z_182 (And.intro z_183 (And.intro z_184 (And.intro z_185 (And.intro z_186 (And.intro z_187 (And.intro z_188 (And.intro z_189 (And.intro z_190 (And.intro z_191 (And.intro z_192 (And.intro z_193 (And.intro z_194 (And.intro z_195 (And.intro z_196 (And.intro z_197 (And.intro z_198 (And.intro z_199 (And.intro z_200 (And.intro z_201 (And.intro z_202 (And.intro z_203 (And.intro z_204 (And.intro z_205 (And.intro z_206 (And.intro z_207 (And.intro z_208 (And.intro z_209 (And.intro z_210 (And.intro z_211 (And.intro z_212 (And.intro z_213 (And.intro z_214 (And.intro z_215 (And.intro z_216 (And.intro z_217 (And.intro z_218 (And.intro z_219 (And.intro z_220 (And.intro z_221 (And.intro z_222 (And.intro z_223 (And.intro z_224 (And.intro z_225 (And.intro z_226 (And.intro z_227 (And.intro z_228 (And.intro z_229 (And.intro z_230 (And.intro z_231 (And.intro z_232 (And.intro z_233 (And.intro z_234 (And.intro z_235 (And.intro z_236 (And.intro z_237 (And.intro z_238 (trivial)))))))))))))))))))))))))))))))))))))))))))))))))))))))))))))))))))))))))))))))))))))))))))))))))))))))))))))))))))))))))))))))))))))))))))))))))))))))))))))))))))))))))))))))))))))))))))))))))))))))))))))))))))))))))))))))))))))))))))))))
theorem z_all {G : px_D} {b P : Nat} {q : Nat × Nat} (h : tbP[P]? = some q) : tzE G b P q.1 q.2 := by
  have := tzL_at tbP 0 P q (z_list (G := G) (b := b)) h
  rw [Nat.zero_add] at this
  exact this
theorem hZ_from {G : px_D} {b : Nat} : ∀ (a : Nat) (e' : va_E), hZ (Y0 G b) b U0 a = some e' → ∃ e, hT (fun _ => none) b (tZ G b) a = some e ∧ sE e e' := by
  intro a e' h
  unfold hZ at h
  by_cases c1 : a < b
  · rw [if_pos c1] at h
    cases h
  · rw [if_neg c1] at h
    have ha : hT (fun _ => none) b (tZ G b) a = tZ G b (a - b) := if_neg c1
    rw [ha]
    by_cases c2 : a = b + 239
    · rw [if_pos c2] at h
      cases h
      rw [c2, Nat.add_sub_cancel_left]
      exact ⟨_, tu_eq, fun _ _ _ q => q⟩
    · rw [if_neg c2] at h
      cases e : tbP[a - b]? with
      | none =>
        rw [e] at h
        cases h
      | some q =>
        rw [e] at h
        cases h
        exact z_all e
theorem pr_same {X : px_X} {G : px_D} {A : Nat → Prop} {Q : State → Prop} {pc : Nat} {L : List (Option Value)} {st : List Value} {h h' : pe_H} {sz nc ns : Nat} (hs : ∀ (a : Nat) (e' : va_E), h' a = some e' → ∃ e, h a = some e ∧ sE e e') (kk : pw X G A Q pc L st h' sz nc ns) : pw X G A Q pc L st h sz nc ns := fun H locs ls a1 a2 a3 a4 a5 =>
  kk H locs ls a1 (fun a e' ha => by
    obtain ⟨e, he, hse⟩ := hs a e' ha
    exact hse G.1 a H (a2 a e he)) (fun a ha => by
    cases e : h' a with
    | none => exact absurd e ha
    | some e' =>
      obtain ⟨e2, he, -⟩ := hs a e' e
      exact a3 a (by rw [he]; exact fun q => by cases q)) a4 a5
