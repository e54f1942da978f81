/-! ===== the reference's constructor: printed by wip/gen/ctors.py ===== -/
def iX12 (M : MM) : MM := bd1 1 6 130 55 (bd1 1 6 130 54 (bd1 1 10 130 51 (bd1 1 6 130 50 (bd1 3 4 130 48 (bd1 1 304 130 47 (bd1 1 76 130 46 (bd1 1 19 130 45 (bd1 1 19 130 44 (bd1 1 19 130 43 (bd1 3 40 130 42 (bd1 1 40 130 41 (bd1 1 5 130 40 (bd1 1 240 130 39 (bd1 1 240 130 38 (bd1 1 240 130 37 (bd1 1 240 130 36 (bd1 1 6 130 35 (bd1 1 20 130 32 (bd1 1 7 130 31 (bd1 1 7 130 30 (bd1 1 7 130 29 (bd1 1 7 130 28 (bd1 1 7 130 27 (bd1 1 7 130 26 (bd1 1 7 130 25 (bd1 1 7 130 24 (bd1 1 7 130 23 (bd1 3 7 130 22 (bd1 1 7 130 21 (bd1 1 2000 130 19 (bd1 1 12 130 18 (bd1 1 12 130 17 (bd1 1 12 130 16 (bd1 1 20 130 15 (bd1 1 20 130 14 (bd1 1 20 130 13 (bd1 2 12 130 12 (bd1 2 20 130 11 (bd1 1 4 130 10 (bd1 1 1000 130 2 (M)))))))))))))))))))))))))))))))))))))))))
theorem sX12_0 {g : GG} {d : Nat} {M : MM} {P : Option Value → MM → Prop} (hJ : gJ g = 0) (h : ob M 130 12) (k1 : EX g YX12_init d 41 4749 1 1000 13 [(0, .ref 130)] [] (bd1 1 1000 130 2 M) P) : EX g YX12_init d 41 4749 0 0 4 [(0, .ref 130)] [] M P := by
  refine x_aload_n dX12_init_4 0 rfl ?_
  refine x_sipush (v := 1000) dX12_init_5 (by decide) ?_
  refine x_newarray hJ (t := 1) (N := 1000) (.inl ⟨rfl, rfl⟩) dX12_init_8 gk_ar_int (by decide) (by decide) (by decide) (by omega) (by omega) ?_
  exact x_putA fdX12_7 rfl (.inr ⟨rfl, rfl⟩) dX12_init_10 h k1
theorem sX12_1 {g : GG} {d : Nat} {M : MM} {P : Option Value → MM → Prop} (hJ : gJ g = 0) (h : ob M 130 12) (k1 : EX g YX12_init d 41 4749 2 1004 20 [(0, .ref 130)] [] (bd1 1 4 130 10 M) P) : EX g YX12_init d 41 4749 1 1000 13 [(0, .ref 130)] [] M P := by
  refine x_aload_n dX12_init_13 0 rfl ?_
  refine x_iconst (v := 4) dX12_init_14 (by decide) ?_
  refine x_newarray hJ (t := 1) (N := 4) (.inl ⟨rfl, rfl⟩) dX12_init_15 gk_ar_int (by decide) (by decide) (by decide) (by omega) (by omega) ?_
  exact x_putA fdX12_13 rfl (.inr ⟨rfl, rfl⟩) dX12_init_17 h k1
theorem sX12_2 {g : GG} {d : Nat} {M : MM} {P : Option Value → MM → Prop} (hJ : gJ g = 0) (h : ob M 130 12) (k1 : EX g YX12_init d 41 4749 3 1024 28 [(0, .ref 130)] [] (bd1 2 20 130 11 M) P) : EX g YX12_init d 41 4749 2 1004 20 [(0, .ref 130)] [] M P := by
  refine x_aload_n dX12_init_20 0 rfl ?_
  refine x_bipush (v := 20) dX12_init_21 (by decide) ?_
  refine x_newarray hJ (t := 2) (N := 20) (.inr (.inl ⟨rfl, rfl⟩)) dX12_init_23 gk_ar_long (by decide) (by decide) (by decide) (by omega) (by omega) ?_
  exact x_putA fdX12_16 rfl (.inr ⟨rfl, rfl⟩) dX12_init_25 h k1
theorem sX12_3 {g : GG} {d : Nat} {M : MM} {P : Option Value → MM → Prop} (hJ : gJ g = 0) (h : ob M 130 12) (k1 : EX g YX12_init d 41 4749 4 1036 36 [(0, .ref 130)] [] (bd1 2 12 130 12 M) P) : EX g YX12_init d 41 4749 3 1024 28 [(0, .ref 130)] [] M P := by
  refine x_aload_n dX12_init_28 0 rfl ?_
  refine x_bipush (v := 12) dX12_init_29 (by decide) ?_
  refine x_newarray hJ (t := 2) (N := 12) (.inr (.inl ⟨rfl, rfl⟩)) dX12_init_31 gk_ar_long (by decide) (by decide) (by decide) (by omega) (by omega) ?_
  exact x_putA fdX12_20 rfl (.inr ⟨rfl, rfl⟩) dX12_init_33 h k1
theorem sX12_4 {g : GG} {d : Nat} {M : MM} {P : Option Value → MM → Prop} (hJ : gJ g = 0) (h : ob M 130 12) (k1 : EX g YX12_init d 41 4749 5 1056 44 [(0, .ref 130)] [] (bd1 1 20 130 13 M) P) : EX g YX12_init d 41 4749 4 1036 36 [(0, .ref 130)] [] M P := by
  refine x_aload_n dX12_init_36 0 rfl ?_
  refine x_bipush (v := 20) dX12_init_37 (by decide) ?_
  refine x_newarray hJ (t := 1) (N := 20) (.inl ⟨rfl, rfl⟩) dX12_init_39 gk_ar_int (by decide) (by decide) (by decide) (by omega) (by omega) ?_
  exact x_putA fdX12_23 rfl (.inr ⟨rfl, rfl⟩) dX12_init_41 h k1
theorem sX12_5 {g : GG} {d : Nat} {M : MM} {P : Option Value → MM → Prop} (hJ : gJ g = 0) (h : ob M 130 12) (k1 : EX g YX12_init d 41 4749 6 1076 52 [(0, .ref 130)] [] (bd1 1 20 130 14 M) P) : EX g YX12_init d 41 4749 5 1056 44 [(0, .ref 130)] [] M P := by
  refine x_aload_n dX12_init_44 0 rfl ?_
  refine x_bipush (v := 20) dX12_init_45 (by decide) ?_
  refine x_newarray hJ (t := 1) (N := 20) (.inl ⟨rfl, rfl⟩) dX12_init_47 gk_ar_int (by decide) (by decide) (by decide) (by omega) (by omega) ?_
  exact x_putA fdX12_26 rfl (.inr ⟨rfl, rfl⟩) dX12_init_49 h k1
theorem sX12_6 {g : GG} {d : Nat} {M : MM} {P : Option Value → MM → Prop} (hJ : gJ g = 0) (h : ob M 130 12) (k1 : EX g YX12_init d 41 4749 7 1096 60 [(0, .ref 130)] [] (bd1 1 20 130 15 M) P) : EX g YX12_init d 41 4749 6 1076 52 [(0, .ref 130)] [] M P := by
  refine x_aload_n dX12_init_52 0 rfl ?_
  refine x_bipush (v := 20) dX12_init_53 (by decide) ?_
  refine x_newarray hJ (t := 1) (N := 20) (.inl ⟨rfl, rfl⟩) dX12_init_55 gk_ar_int (by decide) (by decide) (by decide) (by omega) (by omega) ?_
  exact x_putA fdX12_29 rfl (.inr ⟨rfl, rfl⟩) dX12_init_57 h k1
theorem sX12_7 {g : GG} {d : Nat} {M : MM} {P : Option Value → MM → Prop} (hJ : gJ g = 0) (h : ob M 130 12) (k1 : EX g YX12_init d 41 4749 8 1108 68 [(0, .ref 130)] [] (bd1 1 12 130 16 M) P) : EX g YX12_init d 41 4749 7 1096 60 [(0, .ref 130)] [] M P := by
  refine x_aload_n dX12_init_60 0 rfl ?_
  refine x_bipush (v := 12) dX12_init_61 (by decide) ?_
  refine x_newarray hJ (t := 1) (N := 12) (.inl ⟨rfl, rfl⟩) dX12_init_63 gk_ar_int (by decide) (by decide) (by decide) (by omega) (by omega) ?_
  exact x_putA fdX12_32 rfl (.inr ⟨rfl, rfl⟩) dX12_init_65 h k1
theorem sX12_8 {g : GG} {d : Nat} {M : MM} {P : Option Value → MM → Prop} (hJ : gJ g = 0) (h : ob M 130 12) (k1 : EX g YX12_init d 41 4749 9 1120 76 [(0, .ref 130)] [] (bd1 1 12 130 17 M) P) : EX g YX12_init d 41 4749 8 1108 68 [(0, .ref 130)] [] M P := by
  refine x_aload_n dX12_init_68 0 rfl ?_
  refine x_bipush (v := 12) dX12_init_69 (by decide) ?_
  refine x_newarray hJ (t := 1) (N := 12) (.inl ⟨rfl, rfl⟩) dX12_init_71 gk_ar_int (by decide) (by decide) (by decide) (by omega) (by omega) ?_
  exact x_putA fdX12_35 rfl (.inr ⟨rfl, rfl⟩) dX12_init_73 h k1
theorem sX12_9 {g : GG} {d : Nat} {M : MM} {P : Option Value → MM → Prop} (hJ : gJ g = 0) (h : ob M 130 12) (k1 : EX g YX12_init d 41 4749 10 1132 84 [(0, .ref 130)] [] (bd1 1 12 130 18 M) P) : EX g YX12_init d 41 4749 9 1120 76 [(0, .ref 130)] [] M P := by
  refine x_aload_n dX12_init_76 0 rfl ?_
  refine x_bipush (v := 12) dX12_init_77 (by decide) ?_
  refine x_newarray hJ (t := 1) (N := 12) (.inl ⟨rfl, rfl⟩) dX12_init_79 gk_ar_int (by decide) (by decide) (by decide) (by omega) (by omega) ?_
  exact x_putA fdX12_38 rfl (.inr ⟨rfl, rfl⟩) dX12_init_81 h k1
theorem sX12_10 {g : GG} {d : Nat} {M : MM} {P : Option Value → MM → Prop} (hJ : gJ g = 0) (h : ob M 130 12) (k1 : EX g YX12_init d 41 4749 11 3132 93 [(0, .ref 130)] [] (bd1 1 2000 130 19 M) P) : EX g YX12_init d 41 4749 10 1132 84 [(0, .ref 130)] [] M P := by
  refine x_aload_n dX12_init_84 0 rfl ?_
  refine x_sipush (v := 2000) dX12_init_85 (by decide) ?_
  refine x_newarray hJ (t := 1) (N := 2000) (.inl ⟨rfl, rfl⟩) dX12_init_88 gk_ar_int (by decide) (by decide) (by decide) (by omega) (by omega) ?_
  exact x_putA fdX12_41 rfl (.inr ⟨rfl, rfl⟩) dX12_init_90 h k1
theorem sX12_11 {g : GG} {d : Nat} {M : MM} {P : Option Value → MM → Prop} (hJ : gJ g = 0) (h : ob M 130 12) (k1 : EX g YX12_init d 41 4749 12 3139 101 [(0, .ref 130)] [] (bd1 1 7 130 21 M) P) : EX g YX12_init d 41 4749 11 3132 93 [(0, .ref 130)] [] M P := by
  refine x_aload_n dX12_init_93 0 rfl ?_
  refine x_bipush (v := 7) dX12_init_94 (by decide) ?_
  refine x_newarray hJ (t := 1) (N := 7) (.inl ⟨rfl, rfl⟩) dX12_init_96 gk_ar_int (by decide) (by decide) (by decide) (by omega) (by omega) ?_
  exact x_putA fdX12_44 rfl (.inr ⟨rfl, rfl⟩) dX12_init_98 h k1
theorem sX12_12 {g : GG} {d : Nat} {M : MM} {P : Option Value → MM → Prop} (hJ : gJ g = 0) (h : ob M 130 12) (k1 : EX g YX12_init d 41 4749 13 3146 109 [(0, .ref 130)] [] (bd1 3 7 130 22 M) P) : EX g YX12_init d 41 4749 12 3139 101 [(0, .ref 130)] [] M P := by
  refine x_aload_n dX12_init_101 0 rfl ?_
  refine x_bipush (v := 7) dX12_init_102 (by decide) ?_
  refine x_newarray hJ (t := 3) (N := 7) (.inr (.inr (.inl ⟨rfl, rfl⟩))) dX12_init_104 gk_ar_boolean (by decide) (by decide) (by decide) (by omega) (by omega) ?_
  exact x_putA fdX12_47 rfl (.inr ⟨rfl, rfl⟩) dX12_init_106 h k1
theorem sX12_13 {g : GG} {d : Nat} {M : MM} {P : Option Value → MM → Prop} (hJ : gJ g = 0) (h : ob M 130 12) (k1 : EX g YX12_init d 41 4749 14 3153 117 [(0, .ref 130)] [] (bd1 1 7 130 23 M) P) : EX g YX12_init d 41 4749 13 3146 109 [(0, .ref 130)] [] M P := by
  refine x_aload_n dX12_init_109 0 rfl ?_
  refine x_bipush (v := 7) dX12_init_110 (by decide) ?_
  refine x_newarray hJ (t := 1) (N := 7) (.inl ⟨rfl, rfl⟩) dX12_init_112 gk_ar_int (by decide) (by decide) (by decide) (by omega) (by omega) ?_
  exact x_putA fdX12_51 rfl (.inr ⟨rfl, rfl⟩) dX12_init_114 h k1
theorem sX12_14 {g : GG} {d : Nat} {M : MM} {P : Option Value → MM → Prop} (hJ : gJ g = 0) (h : ob M 130 12) (k1 : EX g YX12_init d 41 4749 15 3160 125 [(0, .ref 130)] [] (bd1 1 7 130 24 M) P) : EX g YX12_init d 41 4749 14 3153 117 [(0, .ref 130)] [] M P := by
  refine x_aload_n dX12_init_117 0 rfl ?_
  refine x_bipush (v := 7) dX12_init_118 (by decide) ?_
  refine x_newarray hJ (t := 1) (N := 7) (.inl ⟨rfl, rfl⟩) dX12_init_120 gk_ar_int (by decide) (by decide) (by decide) (by omega) (by omega) ?_
  exact x_putA fdX12_54 rfl (.inr ⟨rfl, rfl⟩) dX12_init_122 h k1
theorem sX12_15 {g : GG} {d : Nat} {M : MM} {P : Option Value → MM → Prop} (hJ : gJ g = 0) (h : ob M 130 12) (k1 : EX g YX12_init d 41 4749 16 3167 133 [(0, .ref 130)] [] (bd1 1 7 130 25 M) P) : EX g YX12_init d 41 4749 15 3160 125 [(0, .ref 130)] [] M P := by
  refine x_aload_n dX12_init_125 0 rfl ?_
  refine x_bipush (v := 7) dX12_init_126 (by decide) ?_
  refine x_newarray hJ (t := 1) (N := 7) (.inl ⟨rfl, rfl⟩) dX12_init_128 gk_ar_int (by decide) (by decide) (by decide) (by omega) (by omega) ?_
  exact x_putA fdX12_57 rfl (.inr ⟨rfl, rfl⟩) dX12_init_130 h k1
theorem sX12_16 {g : GG} {d : Nat} {M : MM} {P : Option Value → MM → Prop} (hJ : gJ g = 0) (h : ob M 130 12) (k1 : EX g YX12_init d 41 4749 17 3174 141 [(0, .ref 130)] [] (bd1 1 7 130 26 M) P) : EX g YX12_init d 41 4749 16 3167 133 [(0, .ref 130)] [] M P := by
  refine x_aload_n dX12_init_133 0 rfl ?_
  refine x_bipush (v := 7) dX12_init_134 (by decide) ?_
  refine x_newarray hJ (t := 1) (N := 7) (.inl ⟨rfl, rfl⟩) dX12_init_136 gk_ar_int (by decide) (by decide) (by decide) (by omega) (by omega) ?_
  exact x_putA fdX12_60 rfl (.inr ⟨rfl, rfl⟩) dX12_init_138 h k1
theorem sX12_17 {g : GG} {d : Nat} {M : MM} {P : Option Value → MM → Prop} (hJ : gJ g = 0) (h : ob M 130 12) (k1 : EX g YX12_init d 41 4749 18 3181 149 [(0, .ref 130)] [] (bd1 1 7 130 27 M) P) : EX g YX12_init d 41 4749 17 3174 141 [(0, .ref 130)] [] M P := by
  refine x_aload_n dX12_init_141 0 rfl ?_
  refine x_bipush (v := 7) dX12_init_142 (by decide) ?_
  refine x_newarray hJ (t := 1) (N := 7) (.inl ⟨rfl, rfl⟩) dX12_init_144 gk_ar_int (by decide) (by decide) (by decide) (by omega) (by omega) ?_
  exact x_putA fdX12_63 rfl (.inr ⟨rfl, rfl⟩) dX12_init_146 h k1
theorem sX12_18 {g : GG} {d : Nat} {M : MM} {P : Option Value → MM → Prop} (hJ : gJ g = 0) (h : ob M 130 12) (k1 : EX g YX12_init d 41 4749 19 3188 157 [(0, .ref 130)] [] (bd1 1 7 130 28 M) P) : EX g YX12_init d 41 4749 18 3181 149 [(0, .ref 130)] [] M P := by
  refine x_aload_n dX12_init_149 0 rfl ?_
  refine x_bipush (v := 7) dX12_init_150 (by decide) ?_
  refine x_newarray hJ (t := 1) (N := 7) (.inl ⟨rfl, rfl⟩) dX12_init_152 gk_ar_int (by decide) (by decide) (by decide) (by omega) (by omega) ?_
  exact x_putA fdX12_66 rfl (.inr ⟨rfl, rfl⟩) dX12_init_154 h k1
theorem sX12_19 {g : GG} {d : Nat} {M : MM} {P : Option Value → MM → Prop} (hJ : gJ g = 0) (h : ob M 130 12) (k1 : EX g YX12_init d 41 4749 20 3195 165 [(0, .ref 130)] [] (bd1 1 7 130 29 M) P) : EX g YX12_init d 41 4749 19 3188 157 [(0, .ref 130)] [] M P := by
  refine x_aload_n dX12_init_157 0 rfl ?_
  refine x_bipush (v := 7) dX12_init_158 (by decide) ?_
  refine x_newarray hJ (t := 1) (N := 7) (.inl ⟨rfl, rfl⟩) dX12_init_160 gk_ar_int (by decide) (by decide) (by decide) (by omega) (by omega) ?_
  exact x_putA fdX12_69 rfl (.inr ⟨rfl, rfl⟩) dX12_init_162 h k1
theorem sX12_20 {g : GG} {d : Nat} {M : MM} {P : Option Value → MM → Prop} (hJ : gJ g = 0) (h : ob M 130 12) (k1 : EX g YX12_init d 41 4749 21 3202 173 [(0, .ref 130)] [] (bd1 1 7 130 30 M) P) : EX g YX12_init d 41 4749 20 3195 165 [(0, .ref 130)] [] M P := by
  refine x_aload_n dX12_init_165 0 rfl ?_
  refine x_bipush (v := 7) dX12_init_166 (by decide) ?_
  refine x_newarray hJ (t := 1) (N := 7) (.inl ⟨rfl, rfl⟩) dX12_init_168 gk_ar_int (by decide) (by decide) (by decide) (by omega) (by omega) ?_
  exact x_putA fdX12_72 rfl (.inr ⟨rfl, rfl⟩) dX12_init_170 h k1
theorem sX12_21 {g : GG} {d : Nat} {M : MM} {P : Option Value → MM → Prop} (hJ : gJ g = 0) (h : ob M 130 12) (k1 : EX g YX12_init d 41 4749 22 3209 181 [(0, .ref 130)] [] (bd1 1 7 130 31 M) P) : EX g YX12_init d 41 4749 21 3202 173 [(0, .ref 130)] [] M P := by
  refine x_aload_n dX12_init_173 0 rfl ?_
  refine x_bipush (v := 7) dX12_init_174 (by decide) ?_
  refine x_newarray hJ (t := 1) (N := 7) (.inl ⟨rfl, rfl⟩) dX12_init_176 gk_ar_int (by decide) (by decide) (by decide) (by omega) (by omega) ?_
  exact x_putA fdX12_75 rfl (.inr ⟨rfl, rfl⟩) dX12_init_178 h k1
theorem sX12_22 {g : GG} {d : Nat} {M : MM} {P : Option Value → MM → Prop} (hJ : gJ g = 0) (h : ob M 130 12) (k1 : EX g YX12_init d 41 4749 23 3229 189 [(0, .ref 130)] [] (bd1 1 20 130 32 M) P) : EX g YX12_init d 41 4749 22 3209 181 [(0, .ref 130)] [] M P := by
  refine x_aload_n dX12_init_181 0 rfl ?_
  refine x_bipush (v := 20) dX12_init_182 (by decide) ?_
  refine x_newarray hJ (t := 1) (N := 20) (.inl ⟨rfl, rfl⟩) dX12_init_184 gk_ar_int (by decide) (by decide) (by decide) (by omega) (by omega) ?_
  exact x_putA fdX12_78 rfl (.inr ⟨rfl, rfl⟩) dX12_init_186 h k1
theorem sX12_23 {g : GG} {d : Nat} {M : MM} {P : Option Value → MM → Prop} (hJ : gJ g = 0) (h : ob M 130 12) (k1 : EX g YX12_init d 41 4749 24 3235 197 [(0, .ref 130)] [] (bd1 1 6 130 35 M) P) : EX g YX12_init d 41 4749 23 3229 189 [(0, .ref 130)] [] M P := by
  refine x_aload_n dX12_init_189 0 rfl ?_
  refine x_bipush (v := 6) dX12_init_190 (by decide) ?_
  refine x_newarray hJ (t := 1) (N := 6) (.inl ⟨rfl, rfl⟩) dX12_init_192 gk_ar_int (by decide) (by decide) (by decide) (by omega) (by omega) ?_
  exact x_putA fdX12_81 rfl (.inr ⟨rfl, rfl⟩) dX12_init_194 h k1
theorem sX12_24 {g : GG} {d : Nat} {M : MM} {P : Option Value → MM → Prop} (hJ : gJ g = 0) (h : ob M 130 12) (k1 : EX g YX12_init d 41 4749 25 3475 206 [(0, .ref 130)] [] (bd1 1 240 130 36 M) P) : EX g YX12_init d 41 4749 24 3235 197 [(0, .ref 130)] [] M P := by
  refine x_aload_n dX12_init_197 0 rfl ?_
  refine x_sipush (v := 240) dX12_init_198 (by decide) ?_
  refine x_newarray hJ (t := 1) (N := 240) (.inl ⟨rfl, rfl⟩) dX12_init_201 gk_ar_int (by decide) (by decide) (by decide) (by omega) (by omega) ?_
  exact x_putA fdX12_84 rfl (.inr ⟨rfl, rfl⟩) dX12_init_203 h k1
theorem sX12_25 {g : GG} {d : Nat} {M : MM} {P : Option Value → MM → Prop} (hJ : gJ g = 0) (h : ob M 130 12) (k1 : EX g YX12_init d 41 4749 26 3715 215 [(0, .ref 130)] [] (bd1 1 240 130 37 M) P) : EX g YX12_init d 41 4749 25 3475 206 [(0, .ref 130)] [] M P := by
  refine x_aload_n dX12_init_206 0 rfl ?_
  refine x_sipush (v := 240) dX12_init_207 (by decide) ?_
  refine x_newarray hJ (t := 1) (N := 240) (.inl ⟨rfl, rfl⟩) dX12_init_210 gk_ar_int (by decide) (by decide) (by decide) (by omega) (by omega) ?_
  exact x_putA fdX12_87 rfl (.inr ⟨rfl, rfl⟩) dX12_init_212 h k1
theorem sX12_26 {g : GG} {d : Nat} {M : MM} {P : Option Value → MM → Prop} (hJ : gJ g = 0) (h : ob M 130 12) (k1 : EX g YX12_init d 41 4749 27 3955 224 [(0, .ref 130)] [] (bd1 1 240 130 38 M) P) : EX g YX12_init d 41 4749 26 3715 215 [(0, .ref 130)] [] M P := by
  refine x_aload_n dX12_init_215 0 rfl ?_
  refine x_sipush (v := 240) dX12_init_216 (by decide) ?_
  refine x_newarray hJ (t := 1) (N := 240) (.inl ⟨rfl, rfl⟩) dX12_init_219 gk_ar_int (by decide) (by decide) (by decide) (by omega) (by omega) ?_
  exact x_putA fdX12_90 rfl (.inr ⟨rfl, rfl⟩) dX12_init_221 h k1
theorem sX12_27 {g : GG} {d : Nat} {M : MM} {P : Option Value → MM → Prop} (hJ : gJ g = 0) (h : ob M 130 12) (k1 : EX g YX12_init d 41 4749 28 4195 233 [(0, .ref 130)] [] (bd1 1 240 130 39 M) P) : EX g YX12_init d 41 4749 27 3955 224 [(0, .ref 130)] [] M P := by
  refine x_aload_n dX12_init_224 0 rfl ?_
  refine x_sipush (v := 240) dX12_init_225 (by decide) ?_
  refine x_newarray hJ (t := 1) (N := 240) (.inl ⟨rfl, rfl⟩) dX12_init_228 gk_ar_int (by decide) (by decide) (by decide) (by omega) (by omega) ?_
  exact x_putA fdX12_93 rfl (.inr ⟨rfl, rfl⟩) dX12_init_230 h k1
theorem sX12_28 {g : GG} {d : Nat} {M : MM} {P : Option Value → MM → Prop} (hJ : gJ g = 0) (h : ob M 130 12) (k1 : EX g YX12_init d 41 4749 29 4200 240 [(0, .ref 130)] [] (bd1 1 5 130 40 M) P) : EX g YX12_init d 41 4749 28 4195 233 [(0, .ref 130)] [] M P := by
  refine x_aload_n dX12_init_233 0 rfl ?_
  refine x_iconst (v := 5) dX12_init_234 (by decide) ?_
  refine x_newarray hJ (t := 1) (N := 5) (.inl ⟨rfl, rfl⟩) dX12_init_235 gk_ar_int (by decide) (by decide) (by decide) (by omega) (by omega) ?_
  exact x_putA fdX12_96 rfl (.inr ⟨rfl, rfl⟩) dX12_init_237 h k1
theorem sX12_29 {g : GG} {d : Nat} {M : MM} {P : Option Value → MM → Prop} (hJ : gJ g = 0) (h : ob M 130 12) (k1 : EX g YX12_init d 41 4749 30 4240 248 [(0, .ref 130)] [] (bd1 1 40 130 41 M) P) : EX g YX12_init d 41 4749 29 4200 240 [(0, .ref 130)] [] M P := by
  refine x_aload_n dX12_init_240 0 rfl ?_
  refine x_bipush (v := 40) dX12_init_241 (by decide) ?_
  refine x_newarray hJ (t := 1) (N := 40) (.inl ⟨rfl, rfl⟩) dX12_init_243 gk_ar_int (by decide) (by decide) (by decide) (by omega) (by omega) ?_
  exact x_putA fdX12_99 rfl (.inr ⟨rfl, rfl⟩) dX12_init_245 h k1
theorem sX12_30 {g : GG} {d : Nat} {M : MM} {P : Option Value → MM → Prop} (hJ : gJ g = 0) (h : ob M 130 12) (k1 : EX g YX12_init d 41 4749 31 4280 256 [(0, .ref 130)] [] (bd1 3 40 130 42 M) P) : EX g YX12_init d 41 4749 30 4240 248 [(0, .ref 130)] [] M P := by
  refine x_aload_n dX12_init_248 0 rfl ?_
  refine x_bipush (v := 40) dX12_init_249 (by decide) ?_
  refine x_newarray hJ (t := 3) (N := 40) (.inr (.inr (.inl ⟨rfl, rfl⟩))) dX12_init_251 gk_ar_boolean (by decide) (by decide) (by decide) (by omega) (by omega) ?_
  exact x_putA fdX12_102 rfl (.inr ⟨rfl, rfl⟩) dX12_init_253 h k1
theorem sX12_31 {g : GG} {d : Nat} {M : MM} {P : Option Value → MM → Prop} (hJ : gJ g = 0) (h : ob M 130 12) (k1 : EX g YX12_init d 41 4749 32 4299 264 [(0, .ref 130)] [] (bd1 1 19 130 43 M) P) : EX g YX12_init d 41 4749 31 4280 256 [(0, .ref 130)] [] M P := by
  refine x_aload_n dX12_init_256 0 rfl ?_
  refine x_bipush (v := 19) dX12_init_257 (by decide) ?_
  refine x_newarray hJ (t := 1) (N := 19) (.inl ⟨rfl, rfl⟩) dX12_init_259 gk_ar_int (by decide) (by decide) (by decide) (by omega) (by omega) ?_
  exact x_putA fdX12_105 rfl (.inr ⟨rfl, rfl⟩) dX12_init_261 h k1
theorem sX12_32 {g : GG} {d : Nat} {M : MM} {P : Option Value → MM → Prop} (hJ : gJ g = 0) (h : ob M 130 12) (k1 : EX g YX12_init d 41 4749 33 4318 272 [(0, .ref 130)] [] (bd1 1 19 130 44 M) P) : EX g YX12_init d 41 4749 32 4299 264 [(0, .ref 130)] [] M P := by
  refine x_aload_n dX12_init_264 0 rfl ?_
  refine x_bipush (v := 19) dX12_init_265 (by decide) ?_
  refine x_newarray hJ (t := 1) (N := 19) (.inl ⟨rfl, rfl⟩) dX12_init_267 gk_ar_int (by decide) (by decide) (by decide) (by omega) (by omega) ?_
  exact x_putA fdX12_108 rfl (.inr ⟨rfl, rfl⟩) dX12_init_269 h k1
theorem sX12_33 {g : GG} {d : Nat} {M : MM} {P : Option Value → MM → Prop} (hJ : gJ g = 0) (h : ob M 130 12) (k1 : EX g YX12_init d 41 4749 34 4337 280 [(0, .ref 130)] [] (bd1 1 19 130 45 M) P) : EX g YX12_init d 41 4749 33 4318 272 [(0, .ref 130)] [] M P := by
  refine x_aload_n dX12_init_272 0 rfl ?_
  refine x_bipush (v := 19) dX12_init_273 (by decide) ?_
  refine x_newarray hJ (t := 1) (N := 19) (.inl ⟨rfl, rfl⟩) dX12_init_275 gk_ar_int (by decide) (by decide) (by decide) (by omega) (by omega) ?_
  exact x_putA fdX12_111 rfl (.inr ⟨rfl, rfl⟩) dX12_init_277 h k1
theorem sX12_34 {g : GG} {d : Nat} {M : MM} {P : Option Value → MM → Prop} (hJ : gJ g = 0) (h : ob M 130 12) (k1 : EX g YX12_init d 41 4749 35 4413 288 [(0, .ref 130)] [] (bd1 1 76 130 46 M) P) : EX g YX12_init d 41 4749 34 4337 280 [(0, .ref 130)] [] M P := by
  refine x_aload_n dX12_init_280 0 rfl ?_
  refine x_bipush (v := 76) dX12_init_281 (by decide) ?_
  refine x_newarray hJ (t := 1) (N := 76) (.inl ⟨rfl, rfl⟩) dX12_init_283 gk_ar_int (by decide) (by decide) (by decide) (by omega) (by omega) ?_
  exact x_putA fdX12_114 rfl (.inr ⟨rfl, rfl⟩) dX12_init_285 h k1
theorem sX12_35 {g : GG} {d : Nat} {M : MM} {P : Option Value → MM → Prop} (hJ : gJ g = 0) (h : ob M 130 12) (k1 : EX g YX12_init d 41 4749 36 4717 297 [(0, .ref 130)] [] (bd1 1 304 130 47 M) P) : EX g YX12_init d 41 4749 35 4413 288 [(0, .ref 130)] [] M P := by
  refine x_aload_n dX12_init_288 0 rfl ?_
  refine x_sipush (v := 304) dX12_init_289 (by decide) ?_
  refine x_newarray hJ (t := 1) (N := 304) (.inl ⟨rfl, rfl⟩) dX12_init_292 gk_ar_int (by decide) (by decide) (by decide) (by omega) (by omega) ?_
  exact x_putA fdX12_117 rfl (.inr ⟨rfl, rfl⟩) dX12_init_294 h k1
theorem sX12_36 {g : GG} {d : Nat} {M : MM} {P : Option Value → MM → Prop} (hJ : gJ g = 0) (h : ob M 130 12) (k1 : EX g YX12_init d 41 4749 37 4721 304 [(0, .ref 130)] [] (bd1 3 4 130 48 M) P) : EX g YX12_init d 41 4749 36 4717 297 [(0, .ref 130)] [] M P := by
  refine x_aload_n dX12_init_297 0 rfl ?_
  refine x_iconst (v := 4) dX12_init_298 (by decide) ?_
  refine x_newarray hJ (t := 3) (N := 4) (.inr (.inr (.inl ⟨rfl, rfl⟩))) dX12_init_299 gk_ar_boolean (by decide) (by decide) (by decide) (by omega) (by omega) ?_
  exact x_putA fdX12_120 rfl (.inr ⟨rfl, rfl⟩) dX12_init_301 h k1
theorem sX12_37 {g : GG} {d : Nat} {M : MM} {P : Option Value → MM → Prop} (hJ : gJ g = 0) (h : ob M 130 12) (k1 : EX g YX12_init d 41 4749 38 4727 312 [(0, .ref 130)] [] (bd1 1 6 130 50 M) P) : EX g YX12_init d 41 4749 37 4721 304 [(0, .ref 130)] [] M P := by
  refine x_aload_n dX12_init_304 0 rfl ?_
  refine x_bipush (v := 6) dX12_init_305 (by decide) ?_
  refine x_newarray hJ (t := 1) (N := 6) (.inl ⟨rfl, rfl⟩) dX12_init_307 gk_ar_int (by decide) (by decide) (by decide) (by omega) (by omega) ?_
  exact x_putA fdX12_123 rfl (.inr ⟨rfl, rfl⟩) dX12_init_309 h k1
theorem sX12_38 {g : GG} {d : Nat} {M : MM} {P : Option Value → MM → Prop} (hJ : gJ g = 0) (h : ob M 130 12) (k1 : EX g YX12_init d 41 4749 39 4737 320 [(0, .ref 130)] [] (bd1 1 10 130 51 M) P) : EX g YX12_init d 41 4749 38 4727 312 [(0, .ref 130)] [] M P := by
  refine x_aload_n dX12_init_312 0 rfl ?_
  refine x_bipush (v := 10) dX12_init_313 (by decide) ?_
  refine x_newarray hJ (t := 1) (N := 10) (.inl ⟨rfl, rfl⟩) dX12_init_315 gk_ar_int (by decide) (by decide) (by decide) (by omega) (by omega) ?_
  exact x_putA fdX12_126 rfl (.inr ⟨rfl, rfl⟩) dX12_init_317 h k1
theorem sX12_39 {g : GG} {d : Nat} {M : MM} {P : Option Value → MM → Prop} (hJ : gJ g = 0) (h : ob M 130 12) (k1 : EX g YX12_init d 41 4749 40 4743 328 [(0, .ref 130)] [] (bd1 1 6 130 54 M) P) : EX g YX12_init d 41 4749 39 4737 320 [(0, .ref 130)] [] M P := by
  refine x_aload_n dX12_init_320 0 rfl ?_
  refine x_bipush (v := 6) dX12_init_321 (by decide) ?_
  refine x_newarray hJ (t := 1) (N := 6) (.inl ⟨rfl, rfl⟩) dX12_init_323 gk_ar_int (by decide) (by decide) (by decide) (by omega) (by omega) ?_
  exact x_putA fdX12_129 rfl (.inr ⟨rfl, rfl⟩) dX12_init_325 h k1
theorem sX12_40 {g : GG} {d : Nat} {M : MM} {P : Option Value → MM → Prop} (hJ : gJ g = 0) (h : ob M 130 12) (k1 : EX g YX12_init d 41 4749 41 4749 336 [(0, .ref 130)] [] (bd1 1 6 130 55 M) P) : EX g YX12_init d 41 4749 40 4743 328 [(0, .ref 130)] [] M P := by
  refine x_aload_n dX12_init_328 0 rfl ?_
  refine x_bipush (v := 6) dX12_init_329 (by decide) ?_
  refine x_newarray hJ (t := 1) (N := 6) (.inl ⟨rfl, rfl⟩) dX12_init_331 gk_ar_int (by decide) (by decide) (by decide) (by omega) (by omega) ?_
  exact x_putA fdX12_132 rfl (.inr ⟨rfl, rfl⟩) dX12_init_333 h k1
theorem zX12 {M : MM} (h : Zi M) : Zi (iX12 M) := bd1_z (bd1_z (bd1_z (bd1_z (bd1_z (bd1_z (bd1_z (bd1_z (bd1_z (bd1_z (bd1_z (bd1_z (bd1_z (bd1_z (bd1_z (bd1_z (bd1_z (bd1_z (bd1_z (bd1_z (bd1_z (bd1_z (bd1_z (bd1_z (bd1_z (bd1_z (bd1_z (bd1_z (bd1_z (bd1_z (bd1_z (bd1_z (bd1_z (bd1_z (bd1_z (bd1_z (bd1_z (bd1_z (bd1_z (bd1_z (bd1_z (h)))))))))))))))))))))))))))))))))))))))))
set_option maxHeartbeats 4000000 in
set_option maxRecDepth 20000 in
theorem cX12 {g : GG} {d : Nat} {M : MM} {Q : MM → Prop} (hJ : gJ g = 0) (h : ob M 130 12) (hd : 1 ≤ d) (hf : ob (iX12 M) 130 12) (hF : R0 g YX12_fresh (d - 1) [.ref 130] (iX12 M) (fun rv M1 => rv = none ∧ Q M1)) : RT g YX12_init d 41 4749 [.ref 130] M (fun rv M1 => rv = none ∧ Q M1) := by
  refine EX.entry (by decide +kernel) (Nat.le_of_ble_eq_true rfl) ?_
  show EX g YX12_init d 41 4749 0 0 0 [(0, .ref 130)] [] M _
  refine x_aload_n dX12_init_0 0 rfl ?_
  refine x_objInit dX12_init_1 oiX12_1 gk_oi1 gk_oi2 (by omega) (Nat.le_of_ble_eq_true rfl) ?_
  refine sX12_0 hJ (h) ?_
  have h1 := obd (t := 1) (n := 1000) (a := 130) (k := 2) h
  refine sX12_1 hJ (h1) ?_
  have h2 := obd (t := 1) (n := 4) (a := 130) (k := 10) h1
  refine sX12_2 hJ (h2) ?_
  have h3 := obd (t := 2) (n := 20) (a := 130) (k := 11) h2
  refine sX12_3 hJ (h3) ?_
  have h4 := obd (t := 2) (n := 12) (a := 130) (k := 12) h3
  refine sX12_4 hJ (h4) ?_
  have h5 := obd (t := 1) (n := 20) (a := 130) (k := 13) h4
  refine sX12_5 hJ (h5) ?_
  have h6 := obd (t := 1) (n := 20) (a := 130) (k := 14) h5
  refine sX12_6 hJ (h6) ?_
  have h7 := obd (t := 1) (n := 20) (a := 130) (k := 15) h6
  refine sX12_7 hJ (h7) ?_
  have h8 := obd (t := 1) (n := 12) (a := 130) (k := 16) h7
  refine sX12_8 hJ (h8) ?_
  have h9 := obd (t := 1) (n := 12) (a := 130) (k := 17) h8
  refine sX12_9 hJ (h9) ?_
  have h10 := obd (t := 1) (n := 12) (a := 130) (k := 18) h9
  refine sX12_10 hJ (h10) ?_
  have h11 := obd (t := 1) (n := 2000) (a := 130) (k := 19) h10
  refine sX12_11 hJ (h11) ?_
  have h12 := obd (t := 1) (n := 7) (a := 130) (k := 21) h11
  refine sX12_12 hJ (h12) ?_
  have h13 := obd (t := 3) (n := 7) (a := 130) (k := 22) h12
  refine sX12_13 hJ (h13) ?_
  have h14 := obd (t := 1) (n := 7) (a := 130) (k := 23) h13
  refine sX12_14 hJ (h14) ?_
  have h15 := obd (t := 1) (n := 7) (a := 130) (k := 24) h14
  refine sX12_15 hJ (h15) ?_
  have h16 := obd (t := 1) (n := 7) (a := 130) (k := 25) h15
  refine sX12_16 hJ (h16) ?_
  have h17 := obd (t := 1) (n := 7) (a := 130) (k := 26) h16
  refine sX12_17 hJ (h17) ?_
  have h18 := obd (t := 1) (n := 7) (a := 130) (k := 27) h17
  refine sX12_18 hJ (h18) ?_
  have h19 := obd (t := 1) (n := 7) (a := 130) (k := 28) h18
  refine sX12_19 hJ (h19) ?_
  have h20 := obd (t := 1) (n := 7) (a := 130) (k := 29) h19
  refine sX12_20 hJ (h20) ?_
  have h21 := obd (t := 1) (n := 7) (a := 130) (k := 30) h20
  refine sX12_21 hJ (h21) ?_
  have h22 := obd (t := 1) (n := 7) (a := 130) (k := 31) h21
  refine sX12_22 hJ (h22) ?_
  have h23 := obd (t := 1) (n := 20) (a := 130) (k := 32) h22
  refine sX12_23 hJ (h23) ?_
  have h24 := obd (t := 1) (n := 6) (a := 130) (k := 35) h23
  refine sX12_24 hJ (h24) ?_
  have h25 := obd (t := 1) (n := 240) (a := 130) (k := 36) h24
  refine sX12_25 hJ (h25) ?_
  have h26 := obd (t := 1) (n := 240) (a := 130) (k := 37) h25
  refine sX12_26 hJ (h26) ?_
  have h27 := obd (t := 1) (n := 240) (a := 130) (k := 38) h26
  refine sX12_27 hJ (h27) ?_
  have h28 := obd (t := 1) (n := 240) (a := 130) (k := 39) h27
  refine sX12_28 hJ (h28) ?_
  have h29 := obd (t := 1) (n := 5) (a := 130) (k := 40) h28
  refine sX12_29 hJ (h29) ?_
  have h30 := obd (t := 1) (n := 40) (a := 130) (k := 41) h29
  refine sX12_30 hJ (h30) ?_
  have h31 := obd (t := 3) (n := 40) (a := 130) (k := 42) h30
  refine sX12_31 hJ (h31) ?_
  have h32 := obd (t := 1) (n := 19) (a := 130) (k := 43) h31
  refine sX12_32 hJ (h32) ?_
  have h33 := obd (t := 1) (n := 19) (a := 130) (k := 44) h32
  refine sX12_33 hJ (h33) ?_
  have h34 := obd (t := 1) (n := 19) (a := 130) (k := 45) h33
  refine sX12_34 hJ (h34) ?_
  have h35 := obd (t := 1) (n := 76) (a := 130) (k := 46) h34
  refine sX12_35 hJ (h35) ?_
  have h36 := obd (t := 1) (n := 304) (a := 130) (k := 47) h35
  refine sX12_36 hJ (h36) ?_
  have h37 := obd (t := 3) (n := 4) (a := 130) (k := 48) h36
  refine sX12_37 hJ (h37) ?_
  have h38 := obd (t := 1) (n := 6) (a := 130) (k := 50) h37
  refine sX12_38 hJ (h38) ?_
  have h39 := obd (t := 1) (n := 10) (a := 130) (k := 51) h38
  refine sX12_39 hJ (h39) ?_
  have h40 := obd (t := 1) (n := 6) (a := 130) (k := 54) h39
  refine sX12_40 hJ (h40) ?_
  have h41 := obd (t := 1) (n := 6) (a := 130) (k := 55) h40
  refine x_aload_n dX12_init_336 0 rfl ?_
  refine x_callV (As := []) (d1 := d - 1) (mc1 := 0) (ms1 := 0) YX12_fresh cvX12_135 dX12_init_337 rfl rfl hf.1 hf.2 rfl (by omega) (by omega) (by omega) (Nat.le_of_ble_eq_true rfl) hF ?_
  rintro rv M1 ⟨rfl, q⟩
  exact x_vret rfl dX12_init_340 (by omega) (by omega) ⟨rfl, q⟩
