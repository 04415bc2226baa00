theorem lk_X9_84 : Cond.methodLink RX9 84 yX1_sorts ∈ TT := tt_of 814 (by decide +kernel) rfl
theorem lk_X9_57 : Cond.methodLink RX9 57 yX9_goOn ∈ TT := tt_of 790 (by decide +kernel) rfl
theorem ms_X9_goOn : MS yX9_goOn cX9_goOn 16 none 7 := ⟨tt_of 792 (by decide +kernel) rfl, tt_of 791 (by decide +kernel) rfl, tt_of 72 (by decide +kernel) rfl, ⟨by decide +kernel, by decide +kernel, by decide +kernel⟩⟩
theorem lk_X9_87 : Cond.methodLink RX9 87 yX1_sortTold ∈ TT := tt_of 815 (by decide +kernel) rfl
theorem lk_X9_91 : Cond.methodLink RX9 91 yX6_likelyOf ∈ TT := tt_of 816 (by decide +kernel) rfl
theorem mv_X6_likelyOf : MV yX6_likelyOf cX6_likelyOf 5 (some .int) 2 := ⟨tt_of 819 (by decide +kernel) rfl, tt_of 817 (by decide +kernel) rfl, tt_of 818 (by decide +kernel) rfl, tt_of 71 (by decide +kernel) rfl, ⟨by decide +kernel, by decide +kernel, by decide +kernel⟩⟩
theorem fl_X9_39 : Cond.fieldLink RX9 39 RX9 "full" "I" ∈ TT := tt_of 289 (by decide +kernel) rfl
theorem lk_X9_48 : Cond.methodLink RX9 48 yX6_likelyAt ∈ TT := tt_of 777 (by decide +kernel) rfl
theorem mv_X6_likelyAt : MV yX6_likelyAt cX6_likelyAt 3 (some .int) 1 := ⟨tt_of 780 (by decide +kernel) rfl, tt_of 778 (by decide +kernel) rfl, tt_of 779 (by decide +kernel) rfl, tt_of 71 (by decide +kernel) rfl, ⟨by decide +kernel, by decide +kernel, by decide +kernel⟩⟩
theorem lk_X9_61 : Cond.methodLink RX9 61 yX9_finish ∈ TT := tt_of 793 (by decide +kernel) rfl
theorem mv_X9_finish : MV yX9_finish cX9_finish 6 none 4 := ⟨tt_of 796 (by decide +kernel) rfl, tt_of 795 (by decide +kernel) rfl, tt_of 18 (by decide +kernel) rfl, tt_of 72 (by decide +kernel) rfl, ⟨by decide +kernel, by decide +kernel, by decide +kernel⟩⟩
theorem dX9_goOn_0 : decode cX9_goOn 0 = .ok (.iload_n 1, 1) := by decide +kernel
theorem dX9_goOn_1 : decode cX9_goOn 1 = .ok (.aload_n 0, 1) := by decide +kernel
theorem dX9_goOn_2 : decode cX9_goOn 2 = .ok (.getfield 15, 3) := by decide +kernel
theorem dX9_goOn_5 : decode cX9_goOn 5 = .ok (.invokevirtual 42, 3) := by decide +kernel
theorem dX9_goOn_8 : decode cX9_goOn 8 = .ok (.if_icmp .lt 15, 3) := by decide +kernel
theorem dX9_goOn_11 : decode cX9_goOn 11 = .ok (.aload_n 0, 1) := by decide +kernel
theorem dX9_goOn_12 : decode cX9_goOn 12 = .ok (.iload_n 2, 1) := by decide +kernel
theorem dX9_goOn_13 : decode cX9_goOn 13 = .ok (.lload 4, 2) := by decide +kernel
theorem dX9_goOn_15 : decode cX9_goOn 15 = .ok (.iload 6, 2) := by decide +kernel
theorem dX9_goOn_17 : decode cX9_goOn 17 = .ok (.iload 7, 2) := by decide +kernel
theorem dX9_goOn_19 : decode cX9_goOn 19 = .ok (.invokevirtual 61, 3) := by decide +kernel
theorem dX9_goOn_22 : decode cX9_goOn 22 = .ok (.return_, 1) := by decide +kernel
theorem dX9_goOn_23 : decode cX9_goOn 23 = .ok (.iload_n 2, 1) := by decide +kernel
theorem dX9_goOn_24 : decode cX9_goOn 24 = .ok (.aload_n 0, 1) := by decide +kernel
theorem dX9_goOn_25 : decode cX9_goOn 25 = .ok (.getfield 15, 3) := by decide +kernel
theorem dX9_goOn_28 : decode cX9_goOn 28 = .ok (.iload_n 1, 1) := by decide +kernel
theorem dX9_goOn_29 : decode cX9_goOn 29 = .ok (.invokevirtual 65, 3) := by decide +kernel
theorem dX9_goOn_32 : decode cX9_goOn 32 = .ok (.iadd, 1) := by decide +kernel
theorem dX9_goOn_33 : decode cX9_goOn 33 = .ok (.istore 8, 2) := by decide +kernel
theorem dX9_goOn_35 : decode cX9_goOn 35 = .ok (.aload_n 0, 1) := by decide +kernel
theorem dX9_goOn_36 : decode cX9_goOn 36 = .ok (.getfield 15, 3) := by decide +kernel
theorem dX9_goOn_39 : decode cX9_goOn 39 = .ok (.iload_n 1, 1) := by decide +kernel
theorem dX9_goOn_40 : decode cX9_goOn 40 = .ok (.invokevirtual 68, 3) := by decide +kernel
theorem dX9_goOn_43 : decode cX9_goOn 43 = .ok (.astore 9, 2) := by decide +kernel
theorem dX9_goOn_45 : decode cX9_goOn 45 = .ok (.aload 9, 2) := by decide +kernel
theorem dX9_goOn_47 : decode cX9_goOn 47 = .ok (.ifnonnull 23, 3) := by decide +kernel
theorem dX9_goOn_50 : decode cX9_goOn 50 = .ok (.aload_n 0, 1) := by decide +kernel
theorem dX9_goOn_51 : decode cX9_goOn 51 = .ok (.iload_n 1, 1) := by decide +kernel
theorem dX9_goOn_52 : decode cX9_goOn 52 = .ok (.iconst 1, 1) := by decide +kernel
theorem dX9_goOn_53 : decode cX9_goOn 53 = .ok (.iadd, 1) := by decide +kernel
theorem dX9_goOn_54 : decode cX9_goOn 54 = .ok (.iload 8, 2) := by decide +kernel
theorem dX9_goOn_56 : decode cX9_goOn 56 = .ok (.aload_n 0, 1) := by decide +kernel
theorem dX9_goOn_57 : decode cX9_goOn 57 = .ok (.getfield 39, 3) := by decide +kernel
theorem dX9_goOn_60 : decode cX9_goOn 60 = .ok (.lload 4, 2) := by decide +kernel
theorem dX9_goOn_62 : decode cX9_goOn 62 = .ok (.iload 6, 2) := by decide +kernel
theorem dX9_goOn_64 : decode cX9_goOn 64 = .ok (.iload 7, 2) := by decide +kernel
theorem dX9_goOn_66 : decode cX9_goOn 66 = .ok (.invokestatic 57, 3) := by decide +kernel
theorem dX9_goOn_69 : decode cX9_goOn 69 = .ok (.return_, 1) := by decide +kernel
theorem dX9_goOn_70 : decode cX9_goOn 70 = .ok (.aload 9, 2) := by decide +kernel
theorem dX9_goOn_72 : decode cX9_goOn 72 = .ok (.iload 8, 2) := by decide +kernel
theorem dX9_goOn_74 : decode cX9_goOn 74 = .ok (.invokevirtual 72, 3) := by decide +kernel
theorem dX9_goOn_77 : decode cX9_goOn 77 = .ok (.ifCond .eq 35, 3) := by decide +kernel
theorem dX9_goOn_80 : decode cX9_goOn 80 = .ok (.aload_n 0, 1) := by decide +kernel
theorem dX9_goOn_81 : decode cX9_goOn 81 = .ok (.iload_n 1, 1) := by decide +kernel
theorem dX9_goOn_82 : decode cX9_goOn 82 = .ok (.iconst 1, 1) := by decide +kernel
theorem dX9_goOn_83 : decode cX9_goOn 83 = .ok (.iadd, 1) := by decide +kernel
theorem dX9_goOn_84 : decode cX9_goOn 84 = .ok (.iload 8, 2) := by decide +kernel
theorem dX9_goOn_86 : decode cX9_goOn 86 = .ok (.iload_n 3, 1) := by decide +kernel
theorem dX9_goOn_87 : decode cX9_goOn 87 = .ok (.lload 4, 2) := by decide +kernel
theorem dX9_goOn_89 : decode cX9_goOn 89 = .ok (.aload_n 0, 1) := by decide +kernel
theorem dX9_goOn_90 : decode cX9_goOn 90 = .ok (.getfield 15, 3) := by decide +kernel
theorem dX9_goOn_93 : decode cX9_goOn 93 = .ok (.iload_n 1, 1) := by decide +kernel
theorem dX9_goOn_94 : decode cX9_goOn 94 = .ok (.invokevirtual 48, 3) := by decide +kernel
theorem dX9_goOn_97 : decode cX9_goOn 97 = .ok (.i2l, 1) := by decide +kernel
theorem dX9_goOn_98 : decode cX9_goOn 98 = .ok (.lmul, 1) := by decide +kernel
theorem dX9_goOn_99 : decode cX9_goOn 99 = .ok (.iload 6, 2) := by decide +kernel
theorem dX9_goOn_101 : decode cX9_goOn 101 = .ok (.aload 9, 2) := by decide +kernel
theorem dX9_goOn_103 : decode cX9_goOn 103 = .ok (.getfield 78, 3) := by decide +kernel
theorem dX9_goOn_106 : decode cX9_goOn 106 = .ok (.isub, 1) := by decide +kernel
theorem dX9_goOn_107 : decode cX9_goOn 107 = .ok (.iconst 1, 1) := by decide +kernel
theorem dX9_goOn_108 : decode cX9_goOn 108 = .ok (.invokestatic 57, 3) := by decide +kernel
theorem dX9_goOn_111 : decode cX9_goOn 111 = .ok (.return_, 1) := by decide +kernel
theorem dX9_goOn_112 : decode cX9_goOn 112 = .ok (.aload 9, 2) := by decide +kernel
theorem dX9_goOn_114 : decode cX9_goOn 114 = .ok (.iload 8, 2) := by decide +kernel
theorem dX9_goOn_116 : decode cX9_goOn 116 = .ok (.invokevirtual 81, 3) := by decide +kernel
theorem dX9_goOn_119 : decode cX9_goOn 119 = .ok (.istore 10, 2) := by decide +kernel
theorem dX9_goOn_121 : decode cX9_goOn 121 = .ok (.iconst 0, 1) := by decide +kernel
theorem dX9_goOn_122 : decode cX9_goOn 122 = .ok (.istore 11, 2) := by decide +kernel
theorem dX9_goOn_124 : decode cX9_goOn 124 = .ok (.iconst 0, 1) := by decide +kernel
theorem dX9_goOn_125 : decode cX9_goOn 125 = .ok (.istore 12, 2) := by decide +kernel
theorem dX9_goOn_127 : decode cX9_goOn 127 = .ok (.iload 12, 2) := by decide +kernel
theorem dX9_goOn_129 : decode cX9_goOn 129 = .ok (.aload 9, 2) := by decide +kernel
theorem dX9_goOn_131 : decode cX9_goOn 131 = .ok (.invokevirtual 84, 3) := by decide +kernel
theorem dX9_goOn_134 : decode cX9_goOn 134 = .ok (.if_icmp .ge 107, 3) := by decide +kernel
theorem dX9_goOn_137 : decode cX9_goOn 137 = .ok (.aload 9, 2) := by decide +kernel
theorem dX9_goOn_139 : decode cX9_goOn 139 = .ok (.iload 12, 2) := by decide +kernel
theorem dX9_goOn_141 : decode cX9_goOn 141 = .ok (.invokevirtual 87, 3) := by decide +kernel
theorem dX9_goOn_144 : decode cX9_goOn 144 = .ok (.astore 13, 2) := by decide +kernel
theorem dX9_goOn_146 : decode cX9_goOn 146 = .ok (.aload_n 0, 1) := by decide +kernel
theorem dX9_goOn_147 : decode cX9_goOn 147 = .ok (.getfield 15, 3) := by decide +kernel
theorem dX9_goOn_150 : decode cX9_goOn 150 = .ok (.iload_n 1, 1) := by decide +kernel
theorem dX9_goOn_151 : decode cX9_goOn 151 = .ok (.iload 12, 2) := by decide +kernel
theorem dX9_goOn_153 : decode cX9_goOn 153 = .ok (.invokevirtual 91, 3) := by decide +kernel
theorem dX9_goOn_156 : decode cX9_goOn 156 = .ok (.istore 14, 2) := by decide +kernel
theorem dX9_goOn_158 : decode cX9_goOn 158 = .ok (.aload 13, 2) := by decide +kernel
theorem dX9_goOn_160 : decode cX9_goOn 160 = .ok (.ifnull 75, 3) := by decide +kernel
theorem dX9_goOn_163 : decode cX9_goOn 163 = .ok (.iload 14, 2) := by decide +kernel
theorem dX9_goOn_165 : decode cX9_goOn 165 = .ok (.ifCond .ne 6, 3) := by decide +kernel
theorem dX9_goOn_168 : decode cX9_goOn 168 = .ok (.goto 67, 3) := by decide +kernel
theorem dX9_goOn_171 : decode cX9_goOn 171 = .ok (.aload 13, 2) := by decide +kernel
theorem dX9_goOn_173 : decode cX9_goOn 173 = .ok (.iload_n 3, 1) := by decide +kernel
theorem dX9_goOn_174 : decode cX9_goOn 174 = .ok (.aload_n 0, 1) := by decide +kernel
theorem dX9_goOn_175 : decode cX9_goOn 175 = .ok (.getfield 9, 3) := by decide +kernel
theorem dX9_goOn_178 : decode cX9_goOn 178 = .ok (.invokevirtual 95, 3) := by decide +kernel
theorem dX9_goOn_181 : decode cX9_goOn 181 = .ok (.invokevirtual 98, 3) := by decide +kernel
theorem dX9_goOn_184 : decode cX9_goOn 184 = .ok (.istore 15, 2) := by decide +kernel
theorem dX9_goOn_186 : decode cX9_goOn 186 = .ok (.iload 15, 2) := by decide +kernel
theorem dX9_goOn_188 : decode cX9_goOn 188 = .ok (.iconst (-1), 1) := by decide +kernel
theorem dX9_goOn_189 : decode cX9_goOn 189 = .ok (.if_icmp .ne 13, 3) := by decide +kernel
theorem dX9_goOn_192 : decode cX9_goOn 192 = .ok (.iload 11, 2) := by decide +kernel
theorem dX9_goOn_194 : decode cX9_goOn 194 = .ok (.iload 14, 2) := by decide +kernel
theorem dX9_goOn_196 : decode cX9_goOn 196 = .ok (.iadd, 1) := by decide +kernel
theorem dX9_goOn_197 : decode cX9_goOn 197 = .ok (.istore 11, 2) := by decide +kernel
theorem dX9_goOn_199 : decode cX9_goOn 199 = .ok (.goto 36, 3) := by decide +kernel
theorem dX9_goOn_202 : decode cX9_goOn 202 = .ok (.aload_n 0, 1) := by decide +kernel
theorem dX9_goOn_203 : decode cX9_goOn 203 = .ok (.iload_n 1, 1) := by decide +kernel
theorem dX9_goOn_204 : decode cX9_goOn 204 = .ok (.iconst 1, 1) := by decide +kernel
theorem dX9_goOn_205 : decode cX9_goOn 205 = .ok (.iadd, 1) := by decide +kernel
theorem dX9_goOn_206 : decode cX9_goOn 206 = .ok (.iload 10, 2) := by decide +kernel
theorem dX9_goOn_208 : decode cX9_goOn 208 = .ok (.aload 13, 2) := by decide +kernel
theorem dX9_goOn_210 : decode cX9_goOn 210 = .ok (.getfield 103, 3) := by decide +kernel
theorem dX9_goOn_213 : decode cX9_goOn 213 = .ok (.iadd, 1) := by decide +kernel
theorem dX9_goOn_214 : decode cX9_goOn 214 = .ok (.iload 15, 2) := by decide +kernel
theorem dX9_goOn_216 : decode cX9_goOn 216 = .ok (.lload 4, 2) := by decide +kernel
theorem dX9_goOn_218 : decode cX9_goOn 218 = .ok (.iload 14, 2) := by decide +kernel
theorem dX9_goOn_220 : decode cX9_goOn 220 = .ok (.i2l, 1) := by decide +kernel
theorem dX9_goOn_221 : decode cX9_goOn 221 = .ok (.lmul, 1) := by decide +kernel
theorem dX9_goOn_222 : decode cX9_goOn 222 = .ok (.iload 6, 2) := by decide +kernel
theorem dX9_goOn_224 : decode cX9_goOn 224 = .ok (.aload 9, 2) := by decide +kernel
theorem dX9_goOn_226 : decode cX9_goOn 226 = .ok (.getfield 106, 3) := by decide +kernel
theorem dX9_goOn_229 : decode cX9_goOn 229 = .ok (.iadd, 1) := by decide +kernel
theorem dX9_goOn_230 : decode cX9_goOn 230 = .ok (.iload 7, 2) := by decide +kernel
theorem dX9_goOn_232 : decode cX9_goOn 232 = .ok (.invokestatic 57, 3) := by decide +kernel
theorem dX9_goOn_235 : decode cX9_goOn 235 = .ok (.iinc 12 1, 3) := by decide +kernel
theorem dX9_goOn_238 : decode cX9_goOn 238 = .ok (.goto (-111), 3) := by decide +kernel
theorem dX9_goOn_241 : decode cX9_goOn 241 = .ok (.iload 11, 2) := by decide +kernel
theorem dX9_goOn_243 : decode cX9_goOn 243 = .ok (.ifCond .le 34, 3) := by decide +kernel
theorem dX9_goOn_246 : decode cX9_goOn 246 = .ok (.aload_n 0, 1) := by decide +kernel
theorem dX9_goOn_247 : decode cX9_goOn 247 = .ok (.iload_n 1, 1) := by decide +kernel
theorem dX9_goOn_248 : decode cX9_goOn 248 = .ok (.iconst 1, 1) := by decide +kernel
theorem dX9_goOn_249 : decode cX9_goOn 249 = .ok (.iadd, 1) := by decide +kernel
theorem dX9_goOn_250 : decode cX9_goOn 250 = .ok (.iload 10, 2) := by decide +kernel
theorem dX9_goOn_252 : decode cX9_goOn 252 = .ok (.aload 9, 2) := by decide +kernel
theorem dX9_goOn_254 : decode cX9_goOn 254 = .ok (.getfield 109, 3) := by decide +kernel
theorem dX9_goOn_257 : decode cX9_goOn 257 = .ok (.iadd, 1) := by decide +kernel
theorem dX9_goOn_258 : decode cX9_goOn 258 = .ok (.iload_n 3, 1) := by decide +kernel
theorem dX9_goOn_259 : decode cX9_goOn 259 = .ok (.lload 4, 2) := by decide +kernel
theorem dX9_goOn_261 : decode cX9_goOn 261 = .ok (.iload 11, 2) := by decide +kernel
theorem dX9_goOn_263 : decode cX9_goOn 263 = .ok (.i2l, 1) := by decide +kernel
theorem dX9_goOn_264 : decode cX9_goOn 264 = .ok (.lmul, 1) := by decide +kernel
theorem dX9_goOn_265 : decode cX9_goOn 265 = .ok (.iload 6, 2) := by decide +kernel
theorem dX9_goOn_267 : decode cX9_goOn 267 = .ok (.aload 9, 2) := by decide +kernel
theorem dX9_goOn_269 : decode cX9_goOn 269 = .ok (.getfield 78, 3) := by decide +kernel
theorem dX9_goOn_272 : decode cX9_goOn 272 = .ok (.isub, 1) := by decide +kernel
theorem dX9_goOn_273 : decode cX9_goOn 273 = .ok (.iconst 1, 1) := by decide +kernel
theorem dX9_goOn_274 : decode cX9_goOn 274 = .ok (.invokestatic 57, 3) := by decide +kernel
theorem dX9_goOn_277 : decode cX9_goOn 277 = .ok (.return_, 1) := by decide +kernel
def f_X9_goOn_235 (rec : St → Int32 → Int32 → Int32 → Int64 → Int32 → Int32 → Option St) (k_127 : St → Int32 → Int32 → Int64 → Int32 → Int32 → Fin 6 → Int32 → Int32 → Int32 → Option St) (S : St) (x1 : Int32) (x3 : Int32) (x4 : Int64) (x6 : Int32) (x7 : Int32) (x9 : Fin 6) (x10 : Int32) (x11 : Int32) (x12 : Int32) : Option St :=
  bnd (x12 + 1 : Int32) fun v1 =>
  k_127 S x1 x3 x4 x6 x7 x9 x10 x11 v1
def f_X9_goOn_127 (rec : St → Int32 → Int32 → Int32 → Int64 → Int32 → Int32 → Option St) (k_127 : St → Int32 → Int32 → Int64 → Int32 → Int32 → Fin 6 → Int32 → Int32 → Int32 → Option St) (S : St) (x1 : Int32) (x3 : Int32) (x4 : Int64) (x6 : Int32) (x7 : Int32) (x9 : Fin 6) (x10 : Int32) (x11 : Int32) (x12 : Int32) : Option St :=
  obd2 (f_X1_sorts S x9) fun r2 S2 =>
  if r2 ≤ x12 then (
    if x11 ≤ 0 then (
      some S2
    ) else (
      obd (rec S2 (x1 + 1) (x10 + (S2.1 (21 + x9.val) 9)) x3 (x4 * (x11.toInt64)) (x6 - (S2.1 (21 + x9.val) 8)) 1) fun S5 =>
      some S5
    )
  ) else (
    obd2 (f_X1_sortTold S2 x9 x12) fun r6 S6 =>
    obd2 (f_X6_likelyOf S6 x1 x12) fun r7 S7 =>
    oel r6 (
      f_X9_goOn_235 rec k_127 S7 x1 x3 x4 x6 x7 x9 x10 x11 x12
    ) fun v8 =>
      if r7 = 0 then (
        f_X9_goOn_235 rec k_127 S7 x1 x3 x4 x6 x7 x9 x10 x11 x12
      ) else (
        obd2 (f_X4_tools S7 ) fun r10 S10 =>
        obd2 (f_X7_left S10 v8 x3 r10) fun r11 S11 =>
        if r11 = (-1) then (
          bnd ((x11 + r7) : Int32) fun v14 =>
          f_X9_goOn_235 rec k_127 S11 x1 x3 x4 x6 x7 x9 x10 v14 x12
        ) else (
          obd (rec S11 (x1 + 1) (x10 + (S11.1 (33 + v8.val) 1)) r11 (x4 * (r7.toInt64)) (x6 + (S11.1 (21 + x9.val) 7)) x7) fun S13 =>
          f_X9_goOn_235 rec k_127 S13 x1 x3 x4 x6 x7 x9 x10 x11 x12
        )
      )
  )
def l_X9_goOn_127 (rec : St → Int32 → Int32 → Int32 → Int64 → Int32 → Int32 → Option St) : Nat → St → Int32 → Int32 → Int64 → Int32 → Int32 → Fin 6 → Int32 → Int32 → Int32 → Option St
  | 0, _, _, _, _, _, _, _, _, _, _ => none
  | fu + 1, S, x1, x3, x4, x6, x7, x9, x10, x11, x12 => f_X9_goOn_127 rec (l_X9_goOn_127 rec fu) S x1 x3 x4 x6 x7 x9 x10 x11 x12
def f_X9_goOn (rec : St → Int32 → Int32 → Int32 → Int64 → Int32 → Int32 → Option St) (S : St) (x1 : Int32) (x2 : Int32) (x3 : Int32) (x4 : Int64) (x6 : Int32) (x7 : Int32) : Option St :=
  obd2 (f_X6_length S ) fun r15 S15 =>
  if x1 < r15 then (
    obd2 (f_X6_wayTo S15 x1) fun r17 S17 =>
    bnd ((x2 + r17) : Int32) fun v18 =>
    obd2 (f_X6_callAt S17 x1) fun r19 S19 =>
    oel r19 (
      obd (rec S19 (x1 + 1) v18 (S19.1 5 2) x4 x6 x7) fun S21 =>
      some S21
    ) fun v20 =>
      obd2 (f_X1_lateAt S19 v20 v18) fun r22 S22 =>
      if r22 = 0 then (
        obd2 (f_X1_startedAt S22 v20 v18) fun r24 S24 =>
        l_X9_goOn_127 rec FU S24 x1 x3 x4 x6 x7 v20 r24 0 0
      ) else (
        obd2 (f_X6_likelyAt S22 x1) fun r25 S25 =>
        obd (rec S25 (x1 + 1) v18 x3 (x4 * (r25.toInt64)) (x6 - (S25.1 (21 + v20.val) 8)) 1) fun S26 =>
        some S26
      )
  ) else (
    obd (f_X9_finish S15 x2 x4 x6 x7) fun S27 =>
    some S27
  )
set_option maxHeartbeats 4000000 in
set_option maxRecDepth 100000 in
theorem c_X9_goOn {l : Launch} {D : va_G} {cI cC cS : ClassId} {ad adK adV : Nat → Nat} (fr lo : Nat) (rec : St → Int32 → Int32 → Int32 → Int64 → Int32 → Int32 → Option St) (hrec : ∀ {S S1 : St} {x1 : Int32} {x2 : Int32} {x3 : Int32} {x4 : Int64} {x6 : Int32} {x7 : Int32}, rec S x1 x2 x3 x4 x6 x7 = some S1 → Kt l D (xw cI cC cS ad) (KX D (xtys cI cC cS) adK adV) yX9_goOn cX9_goOn 16 none fr lo [.ref (ad 5), .int x1, .int x2, .int x3, .long x4, .int x6, .int x7] S (none) S1) {S S1 : St} {x1 : Int32} {x2 : Int32} {x3 : Int32} {x4 : Int64} {x6 : Int32} {x7 : Int32} (h : f_X9_goOn rec S x1 x2 x3 x4 x6 x7 = some S1) : Kt l D (xw cI cC cS ad) (KX D (xtys cI cC cS) adK adV) yX9_goOn cX9_goOn 16 none (fr + 2) (lo + 48) [.ref (ad 5), .int x1, .int x2, .int x3, .long x4, .int x6, .int x7] S (none) S1 := by
  refine k_ent (ins := .return_) (st := []) (by decide +kernel) (Nat.le_of_ble_eq_true rfl) ret_v ?_
  intro p e s m args below meth c A Q C hK I hA hq ls hl
  have C : CallFix p m c cX9_goOn 16 s args TT RX9 := C
  have hx := C.1
  have hb := C.2.1
  have kx := kx_ok D (xtys cI cC cS) adK adV
  have hl : lv_has ls 16 [(0, .ref (ad 5)), (1, .int x1), (2, .int x2), (3, .int x3), (4, .long x4), (6, .int x6), (7, .int x7)] := hl
  have J_235 : ∀ (k_127 : St → Int32 → Int32 → Int64 → Int32 → Int32 → Fin 6 → Int32 → Int32 → Int32 → Option St) (hk_127 : ∀ (S : St) (x1 : Int32) (x3 : Int32) (x4 : Int64) (x6 : Int32) (x7 : Int32) (x9 : Fin 6) (x10 : Int32) (x11 : Int32) (x12 : Int32), k_127 S x1 x3 x4 x6 x7 x9 x10 x11 x12 = some S1 → ∀ (H : Heap) (locs : List Loc) (ls : Array Slot), Iv D (xw cI cC cS ad) S A s H locs → lv_has ls 16 [(0, .ref (ad 5)), (1, .int x1), (3, .int x3), (4, .long x4), (6, .int x6), (7, .int x7), (9, .ref (ad (21 + x9.val))), (10, .int x10), (11, .int x11), (12, .int x12)] → W p l e ({ frames := fr + 2, cells := 0, slots := 0, locals := lo + 48 } : Room) s m args below meth c H locs 0 0 Q (F0 m 127 ls [])) (S : St) (x1 : Int32) (x3 : Int32) (x4 : Int64) (x6 : Int32) (x7 : Int32) (x9 : Fin 6) (x10 : Int32) (x11 : Int32) (x12 : Int32), f_X9_goOn_235 rec k_127 S x1 x3 x4 x6 x7 x9 x10 x11 x12 = some S1 → ∀ (H : Heap) (locs : List Loc) (ls : Array Slot), Iv D (xw cI cC cS ad) S A s H locs → lv_has ls 16 [(0, .ref (ad 5)), (1, .int x1), (3, .int x3), (4, .long x4), (6, .int x6), (7, .int x7), (9, .ref (ad (21 + x9.val))), (10, .int x10), (11, .int x11), (12, .int x12)] → W p l e ({ frames := fr + 2, cells := 0, slots := 0, locals := lo + 48 } : Room) s m args below meth c H locs 0 0 Q (F0 m 235 ls []) := by
    intro k_127 hk_127 S x1 x3 x4 x6 x7 x9 x10 x11 x12 h H locs ls I hl
    unfold f_X9_goOn_235 at h
    obtain ⟨v1, ev1⟩ : ∃ y : Int32, y = x12 + 1 := ⟨_, rfl⟩
    have h := bnd_at ev1 h
    refine lv_iinc (v := v1) (lv' := [(12, .int v1), (0, .ref (ad 5)), (1, .int x1), (3, .int x3), (4, .long x4), (6, .int x6), (7, .int x7), (9, .ref (ad (21 + x9.val))), (10, .int x10), (11, .int x11)]) hx hb dX9_goOn_235 hl (k := 9) rfl (by rw [ev1]; rfl) (by decide) rfl (fun ls hl => ?_)
    clear ev1
    refine lv_goto (tgt := 127) hx hb dX9_goOn_238 (by decide) ?_
    exact hk_127 _ _ _ _ _ _ _ _ _ _ h _ _ _ I (lv_sub hl [1, 2, 3, 4, 5, 6, 7, 8, 9, 0] rfl)
  have B_127 : ∀ (k_127 : St → Int32 → Int32 → Int64 → Int32 → Int32 → Fin 6 → Int32 → Int32 → Int32 → Option St) (hk_127 : ∀ (S : St) (x1 : Int32) (x3 : Int32) (x4 : Int64) (x6 : Int32) (x7 : Int32) (x9 : Fin 6) (x10 : Int32) (x11 : Int32) (x12 : Int32), k_127 S x1 x3 x4 x6 x7 x9 x10 x11 x12 = some S1 → ∀ (H : Heap) (locs : List Loc) (ls : Array Slot), Iv D (xw cI cC cS ad) S A s H locs → lv_has ls 16 [(0, .ref (ad 5)), (1, .int x1), (3, .int x3), (4, .long x4), (6, .int x6), (7, .int x7), (9, .ref (ad (21 + x9.val))), (10, .int x10), (11, .int x11), (12, .int x12)] → W p l e ({ frames := fr + 2, cells := 0, slots := 0, locals := lo + 48 } : Room) s m args below meth c H locs 0 0 Q (F0 m 127 ls [])) (S : St) (x1 : Int32) (x3 : Int32) (x4 : Int64) (x6 : Int32) (x7 : Int32) (x9 : Fin 6) (x10 : Int32) (x11 : Int32) (x12 : Int32), f_X9_goOn_127 rec k_127 S x1 x3 x4 x6 x7 x9 x10 x11 x12 = some S1 → ∀ (H : Heap) (locs : List Loc) (ls : Array Slot), Iv D (xw cI cC cS ad) S A s H locs → lv_has ls 16 [(0, .ref (ad 5)), (1, .int x1), (3, .int x3), (4, .long x4), (6, .int x6), (7, .int x7), (9, .ref (ad (21 + x9.val))), (10, .int x10), (11, .int x11), (12, .int x12)] → W p l e ({ frames := fr + 2, cells := 0, slots := 0, locals := lo + 48 } : Room) s m args below meth c H locs 0 0 Q (F0 m 127 ls []) := by
    intro k_127 hk_127 S x1 x3 x4 x6 x7 x9 x10 x11 x12 h H locs ls I hl
    unfold f_X9_goOn_127 at h
    refine lv_iload hx hb dX9_goOn_127 (lv_at hl 9 rfl) ?_
    refine lv_aload hx hb dX9_goOn_129 (lv_at hl 6 rfl) ?_
    obtain ⟨r2, S2, e2, h⟩ := obd2_ex h
    refine k_V (As := []) (rest := [.int x12]) (st1 := [.int r2, .int x12]) C kx hK I hA (c_X1_sorts e2) ⟨show 0 + 1 ≤ fr + 2 by omega, show 8 + (1 + 11) + (0) ≤ lo + 48 by omega⟩ mv_X1_sorts lk_X9_84 (21 + x9.val) 1 (xw_C (cI := cI) (cC := cC) (cS := cS) (ad := ad) x9) rfl rfl hl.1 rfl (Nat.le_of_ble_eq_true rfl) dX9_goOn_131 rfl (fun H locs I => ?_)
    refine lv_icmp_ge (tgt := 241) hx hb dX9_goOn_134 (by decide) (fun c3 => ?_) (fun c3 => ?_)
    · have h := ite_t c3 h
      refine lv_iload hx hb dX9_goOn_241 (lv_at hl 8 rfl) ?_
      refine lv_if_le (tgt := 277) hx hb dX9_goOn_243 (by decide) (fun c4 => ?_) (fun c4 => ?_)
      · have h := ite_t c4 h
        exact rt_v hq h I dX9_goOn_277
      · have h := ite_n c4 h
        refine lv_aload_n hx hb dX9_goOn_246 rfl (lv_at hl 0 rfl) ?_
        refine lv_iload_n hx hb dX9_goOn_247 rfl (lv_at hl 1 rfl) ?_
        refine lv_iconst (v := 1) hx hb dX9_goOn_248 (by decide) ?_
        refine lv_iadd hx hb dX9_goOn_249 ?_
        refine lv_iload hx hb dX9_goOn_250 (lv_at hl 7 rfl) ?_
        refine lv_aload hx hb dX9_goOn_252 (lv_at hl 6 rfl) ?_
        refine gxN_C_9 C hK I fl_X9_109 dX9_goOn_254 ?_
        refine lv_iadd hx hb dX9_goOn_257 ?_
        refine lv_iload_n hx hb dX9_goOn_258 rfl (lv_at hl 2 rfl) ?_
        refine lv_lload hx hb dX9_goOn_259 (lv_at hl 3 rfl) ?_
        refine lv_iload hx hb dX9_goOn_261 (lv_at hl 8 rfl) ?_
        refine lv_i2l hx hb dX9_goOn_263 rfl ?_
        refine lv_lmul hx hb dX9_goOn_264 ?_
        refine lv_iload hx hb dX9_goOn_265 (lv_at hl 4 rfl) ?_
        refine lv_aload hx hb dX9_goOn_267 (lv_at hl 6 rfl) ?_
        refine gxN_C_8 C hK I fl_X9_78 dX9_goOn_269 ?_
        refine lv_isub hx hb dX9_goOn_272 ?_
        refine lv_iconst (v := 1) hx hb dX9_goOn_273 (by decide) ?_
        obtain ⟨S5, e5, h⟩ := obd_ex h
        refine k_S (As := [.ref (ad 5), .int (x1 + 1), .int (x10 + (S2.1 (21 + x9.val) 9)), .int x3, .long (x4 * (x11.toInt64)), .int (x6 - (S2.1 (21 + x9.val) 8)), .int 1]) (rest := []) (st1 := []) C kx hK I hA (hrec e5) ⟨show fr + 1 ≤ fr + 2 by omega, show 8 + (16 + 11) + (lo) ≤ lo + 48 by omega⟩ ms_X9_goOn lk_X9_57 rfl hl.1 rfl (Nat.le_of_ble_eq_true rfl) dX9_goOn_274 rfl (fun H locs I => ?_)
        exact rt_v hq h I dX9_goOn_277
    · have h := ite_n c3 h
      refine lv_aload hx hb dX9_goOn_137 (lv_at hl 6 rfl) ?_
      refine lv_iload hx hb dX9_goOn_139 (lv_at hl 9 rfl) ?_
      obtain ⟨r6, S6, e6, h⟩ := obd2_ex h
      refine k_V (As := [.int x12]) (rest := []) (st1 := [rS ad r6]) C kx hK I hA (c_X1_sortTold e6) ⟨show 0 + 1 ≤ fr + 2 by omega, show 8 + (2 + 11) + (0) ≤ lo + 48 by omega⟩ mv_X1_sortTold lk_X9_87 (21 + x9.val) 1 (xw_C (cI := cI) (cC := cC) (cS := cS) (ad := ad) x9) rfl rfl hl.1 rfl (Nat.le_of_ble_eq_true rfl) dX9_goOn_141 rfl (fun H locs I => ?_)
      refine k_astore _ (lv' := [(13, rS ad r6), (0, .ref (ad 5)), (1, .int x1), (3, .int x3), (4, .long x4), (6, .int x6), (7, .int x7), (9, .ref (ad (21 + x9.val))), (10, .int x10), (11, .int x11), (12, .int x12)]) hx hb dX9_goOn_144 rfl hl (by decide) rfl (fun ls hl => ?_)
      refine lv_aload_n hx hb dX9_goOn_146 rfl (lv_at hl 1 rfl) ?_
      refine gx_5_1 C hK I fl_X9_15 dX9_goOn_147 ?_
      refine lv_iload_n hx hb dX9_goOn_150 rfl (lv_at hl 2 rfl) ?_
      refine lv_iload hx hb dX9_goOn_151 (lv_at hl 10 rfl) ?_
      obtain ⟨r7, S7, e7, h⟩ := obd2_ex h
      refine k_V (As := [.int x1, .int x12]) (rest := []) (st1 := [.int r7]) C kx hK I hA (c_X6_likelyOf e7) ⟨show 1 + 1 ≤ fr + 2 by omega, show 8 + (5 + 11) + (21) ≤ lo + 48 by omega⟩ mv_X6_likelyOf lk_X9_91 4 6 (xw_4 (cI := cI) (ad := ad) (cC := cC) (cS := cS)) rfl rfl hl.1 rfl (Nat.le_of_ble_eq_true rfl) dX9_goOn_153 rfl (fun H locs I => ?_)
      refine lv_istore (lv' := [(14, .int r7), (13, rS ad r6), (0, .ref (ad 5)), (1, .int x1), (3, .int x3), (4, .long x4), (6, .int x6), (7, .int x7), (9, .ref (ad (21 + x9.val))), (10, .int x10), (11, .int x11), (12, .int x12)]) hx hb dX9_goOn_156 hl (by decide) (by first | rfl | (simp [cat_rC, cat_rS]; done) | (simp [cat_rC, cat_rS]; rfl)) (fun ls hl => ?_)
      refine k_aload _ hx hb dX9_goOn_158 rfl (lv_at hl 1 rfl) ?_
      refine k_ifn hx hb dX9_goOn_160 (tgt := 235) (by decide) (fun ho => ?_) (fun v8 ho => ?_)
      · subst ho
        have h := oel_n h
        have hl : lv_has ls 16 [(14, .int r7), (13, .null), (0, .ref (ad 5)), (1, .int x1), (3, .int x3), (4, .long x4), (6, .int x6), (7, .int x7), (9, .ref (ad (21 + x9.val))), (10, .int x10), (11, .int x11), (12, .int x12)] := hl
        exact J_235 k_127 hk_127 _ _ _ _ _ _ _ _ _ _ h _ _ _ I (lv_sub hl [2, 3, 4, 5, 6, 7, 8, 9, 10, 11] rfl)
      · subst ho
        have h := oel_s h
        have hl : lv_has ls 16 [(14, .int r7), (13, .ref (ad (33 + v8.val))), (0, .ref (ad 5)), (1, .int x1), (3, .int x3), (4, .long x4), (6, .int x6), (7, .int x7), (9, .ref (ad (21 + x9.val))), (10, .int x10), (11, .int x11), (12, .int x12)] := hl
        refine lv_iload hx hb dX9_goOn_163 (lv_at hl 0 rfl) ?_
        refine lv_if_ne (tgt := 171) hx hb dX9_goOn_165 (by decide) (fun c9 => ?_) (fun c9 => ?_)
        · have h := ite_n c9 h
          refine lv_aload hx hb dX9_goOn_171 (lv_at hl 1 rfl) ?_
          refine lv_iload_n hx hb dX9_goOn_173 rfl (lv_at hl 4 rfl) ?_
          refine lv_aload_n hx hb dX9_goOn_174 rfl (lv_at hl 2 rfl) ?_
          refine gx_5_0 C hK I fl_X9_9 dX9_goOn_175 ?_
          obtain ⟨r10, S10, e10, h⟩ := obd2_ex h
          refine k_V (As := []) (rest := [.int x3, .ref (ad (33 + v8.val))]) (st1 := [.int r10, .int x3, .ref (ad (33 + v8.val))]) C kx hK I hA (c_X4_tools e10) ⟨show 0 + 1 ≤ fr + 2 by omega, show 8 + (1 + 11) + (0) ≤ lo + 48 by omega⟩ mv_X4_tools lk_X9_95 3 4 (xw_3 (cI := cI) (ad := ad) (cC := cC) (cS := cS)) rfl rfl hl.1 rfl (Nat.le_of_ble_eq_true rfl) dX9_goOn_178 rfl (fun H locs I => ?_)
          obtain ⟨r11, S11, e11, h⟩ := obd2_ex h
          refine k_V (As := [.int x3, .int r10]) (rest := []) (st1 := [.int r11]) C kx hK I hA (c_X7_left e11) ⟨show 1 + 1 ≤ fr + 2 by omega, show 8 + (4 + 11) + (22) ≤ lo + 48 by omega⟩ mv_X7_left lk_X9_98 (33 + v8.val) 7 (xw_S (cI := cI) (cC := cC) (cS := cS) (ad := ad) v8) rfl rfl hl.1 rfl (Nat.le_of_ble_eq_true rfl) dX9_goOn_181 rfl (fun H locs I => ?_)
          refine lv_istore (lv' := [(15, .int r11), (14, .int r7), (13, .ref (ad (33 + v8.val))), (0, .ref (ad 5)), (1, .int x1), (3, .int x3), (4, .long x4), (6, .int x6), (7, .int x7), (9, .ref (ad (21 + x9.val))), (10, .int x10), (11, .int x11), (12, .int x12)]) hx hb dX9_goOn_184 hl (by decide) rfl (fun ls hl => ?_)
          refine lv_iload hx hb dX9_goOn_186 (lv_at hl 0 rfl) ?_
          refine lv_iconst (v := (-1)) hx hb dX9_goOn_188 (by decide) ?_
          refine lv_icmp_ne (tgt := 202) hx hb dX9_goOn_189 (by decide) (fun c12 => ?_) (fun c12 => ?_)
          · have h := ite_n c12 h
            refine lv_aload_n hx hb dX9_goOn_202 rfl (lv_at hl 3 rfl) ?_
            refine lv_iload_n hx hb dX9_goOn_203 rfl (lv_at hl 4 rfl) ?_
            refine lv_iconst (v := 1) hx hb dX9_goOn_204 (by decide) ?_
            refine lv_iadd hx hb dX9_goOn_205 ?_
            refine lv_iload hx hb dX9_goOn_206 (lv_at hl 10 rfl) ?_
            refine lv_aload hx hb dX9_goOn_208 (lv_at hl 2 rfl) ?_
            refine gxN_S_1 C hK I fl_X9_103 dX9_goOn_210 ?_
            refine lv_iadd hx hb dX9_goOn_213 ?_
            refine lv_iload hx hb dX9_goOn_214 (lv_at hl 0 rfl) ?_
            refine lv_lload hx hb dX9_goOn_216 (lv_at hl 6 rfl) ?_
            refine lv_iload hx hb dX9_goOn_218 (lv_at hl 1 rfl) ?_
            refine lv_i2l hx hb dX9_goOn_220 rfl ?_
            refine lv_lmul hx hb dX9_goOn_221 ?_
            refine lv_iload hx hb dX9_goOn_222 (lv_at hl 7 rfl) ?_
            refine lv_aload hx hb dX9_goOn_224 (lv_at hl 9 rfl) ?_
            refine gxN_C_7 C hK I fl_X9_106 dX9_goOn_226 ?_
            refine lv_iadd hx hb dX9_goOn_229 ?_
            refine lv_iload hx hb dX9_goOn_230 (lv_at hl 8 rfl) ?_
            obtain ⟨S13, e13, h⟩ := obd_ex h
            refine k_S (As := [.ref (ad 5), .int (x1 + 1), .int (x10 + (S11.1 (33 + v8.val) 1)), .int r11, .long (x4 * (r7.toInt64)), .int (x6 + (S11.1 (21 + x9.val) 7)), .int x7]) (rest := []) (st1 := []) C kx hK I hA (hrec e13) ⟨show fr + 1 ≤ fr + 2 by omega, show 8 + (16 + 11) + (lo) ≤ lo + 48 by omega⟩ ms_X9_goOn lk_X9_57 rfl hl.1 rfl (Nat.le_of_ble_eq_true rfl) dX9_goOn_232 rfl (fun H locs I => ?_)
            exact J_235 k_127 hk_127 _ _ _ _ _ _ _ _ _ _ h _ _ _ I (lv_sub hl [3, 4, 5, 6, 7, 8, 9, 10, 11, 12] rfl)
          · have h := ite_t c12 h
            refine lv_iload hx hb dX9_goOn_192 (lv_at hl 11 rfl) ?_
            refine lv_iload hx hb dX9_goOn_194 (lv_at hl 1 rfl) ?_
            refine lv_iadd hx hb dX9_goOn_196 ?_
            refine lv_topi (fun v14 ev14 => ?_)
            have h := bnd_at ev14 h
            clear ev14
            refine lv_istore (lv' := [(11, .int v14), (15, .int r11), (14, .int r7), (13, .ref (ad (33 + v8.val))), (0, .ref (ad 5)), (1, .int x1), (3, .int x3), (4, .long x4), (6, .int x6), (7, .int x7), (9, .ref (ad (21 + x9.val))), (10, .int x10), (12, .int x12)]) hx hb dX9_goOn_197 hl (by decide) rfl (fun ls hl => ?_)
            refine lv_goto (tgt := 235) hx hb dX9_goOn_199 (by decide) ?_
            exact J_235 k_127 hk_127 _ _ _ _ _ _ _ _ _ _ h _ _ _ I (lv_sub hl [4, 5, 6, 7, 8, 9, 10, 11, 0, 12] rfl)
        · have h := ite_t c9 h
          refine lv_goto (tgt := 235) hx hb dX9_goOn_168 (by decide) ?_
          exact J_235 k_127 hk_127 _ _ _ _ _ _ _ _ _ _ h _ _ _ I (lv_sub hl [2, 3, 4, 5, 6, 7, 8, 9, 10, 11] rfl)
  have J_127 : ∀ (fu : Nat) (S : St) (x1 : Int32) (x3 : Int32) (x4 : Int64) (x6 : Int32) (x7 : Int32) (x9 : Fin 6) (x10 : Int32) (x11 : Int32) (x12 : Int32), l_X9_goOn_127 rec  fu S x1 x3 x4 x6 x7 x9 x10 x11 x12 = some S1 → ∀ (H : Heap) (locs : List Loc) (ls : Array Slot), Iv D (xw cI cC cS ad) S A s H locs → lv_has ls 16 [(0, .ref (ad 5)), (1, .int x1), (3, .int x3), (4, .long x4), (6, .int x6), (7, .int x7), (9, .ref (ad (21 + x9.val))), (10, .int x10), (11, .int x11), (12, .int x12)] → W p l e ({ frames := fr + 2, cells := 0, slots := 0, locals := lo + 48 } : Room) s m args below meth c H locs 0 0 Q (F0 m 127 ls []) := by
    intro fu
    induction fu with
    | zero => intro S x1 x3 x4 x6 x7 x9 x10 x11 x12 h; cases h
    | succ fu ih => intro S x1 x3 x4 x6 x7 x9 x10 x11 x12 h; exact B_127 (l_X9_goOn_127 rec fu) ih S x1 x3 x4 x6 x7 x9 x10 x11 x12 h
  unfold f_X9_goOn at h
  refine lv_iload_n hx hb dX9_goOn_0 rfl (lv_at hl 1 rfl) ?_
  refine lv_aload_n hx hb dX9_goOn_1 rfl (lv_at hl 0 rfl) ?_
  refine gx_5_1 C hK I fl_X9_15 dX9_goOn_2 ?_
  obtain ⟨r15, S15, e15, h⟩ := obd2_ex h
  refine k_V (As := []) (rest := [.int x1]) (st1 := [.int r15, .int x1]) C kx hK I hA (c_X6_length e15) ⟨show 0 + 1 ≤ fr + 2 by omega, show 8 + (1 + 11) + (0) ≤ lo + 48 by omega⟩ mv_X6_length lk_X9_42 4 6 (xw_4 (cI := cI) (ad := ad) (cC := cC) (cS := cS)) rfl rfl hl.1 rfl (Nat.le_of_ble_eq_true rfl) dX9_goOn_5 rfl (fun H locs I => ?_)
  refine lv_icmp_lt (tgt := 23) hx hb dX9_goOn_8 (by decide) (fun c16 => ?_) (fun c16 => ?_)
  · have h := ite_t c16 h
    refine lv_iload_n hx hb dX9_goOn_23 rfl (lv_at hl 2 rfl) ?_
    refine lv_aload_n hx hb dX9_goOn_24 rfl (lv_at hl 0 rfl) ?_
    refine gx_5_1 C hK I fl_X9_15 dX9_goOn_25 ?_
    refine lv_iload_n hx hb dX9_goOn_28 rfl (lv_at hl 1 rfl) ?_
    obtain ⟨r17, S17, e17, h⟩ := obd2_ex h
    refine k_V (As := [.int x1]) (rest := [.int x2]) (st1 := [.int r17, .int x2]) C kx hK I hA (c_X6_wayTo e17) ⟨show 1 + 1 ≤ fr + 2 by omega, show 8 + (2 + 11) + (21) ≤ lo + 48 by omega⟩ mv_X6_wayTo lk_X9_65 4 6 (xw_4 (cI := cI) (ad := ad) (cC := cC) (cS := cS)) rfl rfl hl.1 rfl (Nat.le_of_ble_eq_true rfl) dX9_goOn_29 rfl (fun H locs I => ?_)
    refine lv_iadd hx hb dX9_goOn_32 ?_
    refine lv_topi (fun v18 ev18 => ?_)
    have h := bnd_at ev18 h
    clear ev18
    refine lv_istore (lv' := [(8, .int v18), (0, .ref (ad 5)), (1, .int x1), (2, .int x2), (3, .int x3), (4, .long x4), (6, .int x6), (7, .int x7)]) hx hb dX9_goOn_33 hl (by decide) rfl (fun ls hl => ?_)
    refine lv_aload_n hx hb dX9_goOn_35 rfl (lv_at hl 1 rfl) ?_
    refine gx_5_1 C hK I fl_X9_15 dX9_goOn_36 ?_
    refine lv_iload_n hx hb dX9_goOn_39 rfl (lv_at hl 2 rfl) ?_
    obtain ⟨r19, S19, e19, h⟩ := obd2_ex h
    refine k_V (As := [.int x1]) (rest := []) (st1 := [rC ad r19]) C kx hK I hA (c_X6_callAt e19) ⟨show 0 + 1 ≤ fr + 2 by omega, show 8 + (2 + 11) + (0) ≤ lo + 48 by omega⟩ mv_X6_callAt lk_X9_68 4 6 (xw_4 (cI := cI) (ad := ad) (cC := cC) (cS := cS)) rfl rfl hl.1 rfl (Nat.le_of_ble_eq_true rfl) dX9_goOn_40 rfl (fun H locs I => ?_)
    refine k_astore _ (lv' := [(9, rC ad r19), (8, .int v18), (0, .ref (ad 5)), (1, .int x1), (2, .int x2), (3, .int x3), (4, .long x4), (6, .int x6), (7, .int x7)]) hx hb dX9_goOn_43 rfl hl (by decide) rfl (fun ls hl => ?_)
    refine k_aload _ hx hb dX9_goOn_45 rfl (lv_at hl 0 rfl) ?_
    refine k_ifnn hx hb dX9_goOn_47 (tgt := 70) (by decide) (fun v20 ho => ?_) (fun ho => ?_)
    · subst ho
      have h := oel_s h
      have hl : lv_has ls 16 [(9, .ref (ad (21 + v20.val))), (8, .int v18), (0, .ref (ad 5)), (1, .int x1), (2, .int x2), (3, .int x3), (4, .long x4), (6, .int x6), (7, .int x7)] := hl
      refine lv_aload hx hb dX9_goOn_70 (lv_at hl 0 rfl) ?_
      refine lv_iload hx hb dX9_goOn_72 (lv_at hl 1 rfl) ?_
      obtain ⟨r22, S22, e22, h⟩ := obd2_ex h
      refine k_V (As := [.int v18]) (rest := []) (st1 := [.int r22]) C kx hK I hA (c_X1_lateAt e22) ⟨show 0 + 1 ≤ fr + 2 by omega, show 8 + (2 + 11) + (0) ≤ lo + 48 by omega⟩ mv_X1_lateAt lk_X9_72 (21 + v20.val) 1 (xw_C (cI := cI) (cC := cC) (cS := cS) (ad := ad) v20) rfl rfl hl.1 rfl (Nat.le_of_ble_eq_true rfl) dX9_goOn_74 rfl (fun H locs I => ?_)
      refine lv_if_eq (tgt := 112) hx hb dX9_goOn_77 (by decide) (fun c23 => ?_) (fun c23 => ?_)
      · have h := ite_t c23 h
        refine lv_aload hx hb dX9_goOn_112 (lv_at hl 0 rfl) ?_
        refine lv_iload hx hb dX9_goOn_114 (lv_at hl 1 rfl) ?_
        obtain ⟨r24, S24, e24, h⟩ := obd2_ex h
        refine k_V (As := [.int v18]) (rest := []) (st1 := [.int r24]) C kx hK I hA (c_X1_startedAt e24) ⟨show 1 + 1 ≤ fr + 2 by omega, show 8 + (2 + 11) + (23) ≤ lo + 48 by omega⟩ mv_X1_startedAt lk_X9_81 (21 + v20.val) 1 (xw_C (cI := cI) (cC := cC) (cS := cS) (ad := ad) v20) rfl rfl hl.1 rfl (Nat.le_of_ble_eq_true rfl) dX9_goOn_116 rfl (fun H locs I => ?_)
        refine lv_istore (lv' := [(10, .int r24), (9, .ref (ad (21 + v20.val))), (8, .int v18), (0, .ref (ad 5)), (1, .int x1), (2, .int x2), (3, .int x3), (4, .long x4), (6, .int x6), (7, .int x7)]) hx hb dX9_goOn_119 hl (by decide) rfl (fun ls hl => ?_)
        refine lv_iconst (v := 0) hx hb dX9_goOn_121 (by decide) ?_
        refine lv_istore (lv' := [(11, .int 0), (10, .int r24), (9, .ref (ad (21 + v20.val))), (8, .int v18), (0, .ref (ad 5)), (1, .int x1), (2, .int x2), (3, .int x3), (4, .long x4), (6, .int x6), (7, .int x7)]) hx hb dX9_goOn_122 hl (by decide) rfl (fun ls hl => ?_)
        refine lv_iconst (v := 0) hx hb dX9_goOn_124 (by decide) ?_
        refine lv_istore (lv' := [(12, .int 0), (11, .int 0), (10, .int r24), (9, .ref (ad (21 + v20.val))), (8, .int v18), (0, .ref (ad 5)), (1, .int x1), (2, .int x2), (3, .int x3), (4, .long x4), (6, .int x6), (7, .int x7)]) hx hb dX9_goOn_125 hl (by decide) rfl (fun ls hl => ?_)
        exact J_127 _ _ _ _ _ _ _ _ _ _ _ h _ _ _ I (lv_sub hl [5, 6, 8, 9, 10, 11, 3, 2, 1, 0] rfl)
      · have h := ite_n c23 h
        refine lv_aload_n hx hb dX9_goOn_80 rfl (lv_at hl 2 rfl) ?_
        refine lv_iload_n hx hb dX9_goOn_81 rfl (lv_at hl 3 rfl) ?_
        refine lv_iconst (v := 1) hx hb dX9_goOn_82 (by decide) ?_
        refine lv_iadd hx hb dX9_goOn_83 ?_
        refine lv_iload hx hb dX9_goOn_84 (lv_at hl 1 rfl) ?_
        refine lv_iload_n hx hb dX9_goOn_86 rfl (lv_at hl 5 rfl) ?_
        refine lv_lload hx hb dX9_goOn_87 (lv_at hl 6 rfl) ?_
        refine lv_aload_n hx hb dX9_goOn_89 rfl (lv_at hl 2 rfl) ?_
        refine gx_5_1 C hK I fl_X9_15 dX9_goOn_90 ?_
        refine lv_iload_n hx hb dX9_goOn_93 rfl (lv_at hl 3 rfl) ?_
        obtain ⟨r25, S25, e25, h⟩ := obd2_ex h
        refine k_V (As := [.int x1]) (rest := [.long x4, .int x3, .int v18, .int (x1 + 1), .ref (ad 5)]) (st1 := [.int r25, .long x4, .int x3, .int v18, .int (x1 + 1), .ref (ad 5)]) C kx hK I hA (c_X6_likelyAt e25) ⟨show 1 + 1 ≤ fr + 2 by omega, show 8 + (3 + 11) + (21) ≤ lo + 48 by omega⟩ mv_X6_likelyAt lk_X9_48 4 6 (xw_4 (cI := cI) (ad := ad) (cC := cC) (cS := cS)) rfl rfl hl.1 rfl (Nat.le_of_ble_eq_true rfl) dX9_goOn_94 rfl (fun H locs I => ?_)
        refine lv_i2l hx hb dX9_goOn_97 rfl ?_
        refine lv_lmul hx hb dX9_goOn_98 ?_
        refine lv_iload hx hb dX9_goOn_99 (lv_at hl 7 rfl) ?_
        refine lv_aload hx hb dX9_goOn_101 (lv_at hl 0 rfl) ?_
        refine gxN_C_8 C hK I fl_X9_78 dX9_goOn_103 ?_
        refine lv_isub hx hb dX9_goOn_106 ?_
        refine lv_iconst (v := 1) hx hb dX9_goOn_107 (by decide) ?_
        obtain ⟨S26, e26, h⟩ := obd_ex h
        refine k_S (As := [.ref (ad 5), .int (x1 + 1), .int v18, .int x3, .long (x4 * (r25.toInt64)), .int (x6 - (S25.1 (21 + v20.val) 8)), .int 1]) (rest := []) (st1 := []) C kx hK I hA (hrec e26) ⟨show fr + 1 ≤ fr + 2 by omega, show 8 + (16 + 11) + (lo) ≤ lo + 48 by omega⟩ ms_X9_goOn lk_X9_57 rfl hl.1 rfl (Nat.le_of_ble_eq_true rfl) dX9_goOn_108 rfl (fun H locs I => ?_)
        exact rt_v hq h I dX9_goOn_111
    · subst ho
      have h := oel_n h
      have hl : lv_has ls 16 [(9, .null), (8, .int v18), (0, .ref (ad 5)), (1, .int x1), (2, .int x2), (3, .int x3), (4, .long x4), (6, .int x6), (7, .int x7)] := hl
      refine lv_aload_n hx hb dX9_goOn_50 rfl (lv_at hl 2 rfl) ?_
      refine lv_iload_n hx hb dX9_goOn_51 rfl (lv_at hl 3 rfl) ?_
      refine lv_iconst (v := 1) hx hb dX9_goOn_52 (by decide) ?_
      refine lv_iadd hx hb dX9_goOn_53 ?_
      refine lv_iload hx hb dX9_goOn_54 (lv_at hl 1 rfl) ?_
      refine lv_aload_n hx hb dX9_goOn_56 rfl (lv_at hl 2 rfl) ?_
      refine gx_5_2 C hK I fl_X9_39 dX9_goOn_57 ?_
      refine lv_lload hx hb dX9_goOn_60 (lv_at hl 6 rfl) ?_
      refine lv_iload hx hb dX9_goOn_62 (lv_at hl 7 rfl) ?_
      refine lv_iload hx hb dX9_goOn_64 (lv_at hl 8 rfl) ?_
      obtain ⟨S21, e21, h⟩ := obd_ex h
      refine k_S (As := [.ref (ad 5), .int (x1 + 1), .int v18, .int (S19.1 5 2), .long x4, .int x6, .int x7]) (rest := []) (st1 := []) C kx hK I hA (hrec e21) ⟨show fr + 1 ≤ fr + 2 by omega, show 8 + (16 + 11) + (lo) ≤ lo + 48 by omega⟩ ms_X9_goOn lk_X9_57 rfl hl.1 rfl (Nat.le_of_ble_eq_true rfl) dX9_goOn_66 rfl (fun H locs I => ?_)
      exact rt_v hq h I dX9_goOn_69
  · have h := ite_n c16 h
    refine lv_aload_n hx hb dX9_goOn_11 rfl (lv_at hl 0 rfl) ?_
    refine lv_iload_n hx hb dX9_goOn_12 rfl (lv_at hl 2 rfl) ?_
    refine lv_lload hx hb dX9_goOn_13 (lv_at hl 4 rfl) ?_
    refine lv_iload hx hb dX9_goOn_15 (lv_at hl 5 rfl) ?_
    refine lv_iload hx hb dX9_goOn_17 (lv_at hl 6 rfl) ?_
    obtain ⟨S27, e27, h⟩ := obd_ex h
    refine k_V (As := [.int x2, .long x4, .int x6, .int x7]) (rest := []) (st1 := []) C kx hK I hA (c_X9_finish e27) ⟨show 1 + 1 ≤ fr + 2 by omega, show 8 + (6 + 11) + (23) ≤ lo + 48 by omega⟩ mv_X9_finish lk_X9_61 5 9 (xw_5 (cI := cI) (ad := ad) (cC := cC) (cS := cS)) rfl rfl hl.1 rfl (Nat.le_of_ble_eq_true rfl) dX9_goOn_19 rfl (fun H locs I => ?_)
    exact rt_v hq h I dX9_goOn_22
def g_X9_goOn : Nat → St → Int32 → Int32 → Int32 → Int64 → Int32 → Int32 → Option St
  | 0, _, _, _, _, _, _, _ => none
  | d + 1, S, x1, x2, x3, x4, x6, x7 => f_X9_goOn (g_X9_goOn d) S x1 x2 x3 x4 x6 x7
theorem cg_X9_goOn {l : Launch} {D : va_G} {cI cC cS : ClassId} {ad adK adV : Nat → Nat} (d : Nat) : ∀ {S S1 : St} {x1 : Int32} {x2 : Int32} {x3 : Int32} {x4 : Int64} {x6 : Int32} {x7 : Int32}, g_X9_goOn d S x1 x2 x3 x4 x6 x7 = some S1 → Kt l D (xw cI cC cS ad) (KX D (xtys cI cC cS) adK adV) yX9_goOn cX9_goOn 16 none (2 * d) (48 * d) [.ref (ad 5), .int x1, .int x2, .int x3, .long x4, .int x6, .int x7] S (none) S1 := by
  induction d with
  | zero => intro S S1 x1 x2 x3 x4 x6 x7 h; cases h
  | succ d ih => intro S S1 x1 x2 x3 x4 x6 x7 h; exact c_X9_goOn (2 * d) (48 * d) (g_X9_goOn d) ih h
theorem dX9_take_0 : decode cX9_take 0 = .ok (.aload_n 0, 1) := by decide +kernel
theorem dX9_take_1 : decode cX9_take 1 = .ok (.iload_n 1, 1) := by decide +kernel
theorem dX9_take_2 : decode cX9_take 2 = .ok (.putfield 39, 3) := by decide +kernel
theorem dX9_take_5 : decode cX9_take 5 = .ok (.aload_n 0, 1) := by decide +kernel
theorem dX9_take_6 : decode cX9_take 6 = .ok (.lconst 0, 1) := by decide +kernel
theorem dX9_take_7 : decode cX9_take 7 = .ok (.putfield 19, 3) := by decide +kernel
theorem dX9_take_10 : decode cX9_take 10 = .ok (.aload_n 0, 1) := by decide +kernel
theorem dX9_take_11 : decode cX9_take 11 = .ok (.lconst 0, 1) := by decide +kernel
theorem dX9_take_12 : decode cX9_take 12 = .ok (.putfield 23, 3) := by decide +kernel
theorem dX9_take_15 : decode cX9_take 15 = .ok (.aload_n 0, 1) := by decide +kernel
theorem dX9_take_16 : decode cX9_take 16 = .ok (.iconst 0, 1) := by decide +kernel
theorem dX9_take_17 : decode cX9_take 17 = .ok (.putfield 29, 3) := by decide +kernel
theorem dX9_take_20 : decode cX9_take 20 = .ok (.aload_n 0, 1) := by decide +kernel
theorem dX9_take_21 : decode cX9_take 21 = .ok (.lconst 1, 1) := by decide +kernel
theorem dX9_take_22 : decode cX9_take 22 = .ok (.putfield 26, 3) := by decide +kernel
theorem dX9_take_25 : decode cX9_take 25 = .ok (.iconst 0, 1) := by decide +kernel
theorem dX9_take_26 : decode cX9_take 26 = .ok (.istore_n 2, 1) := by decide +kernel
theorem dX9_take_27 : decode cX9_take 27 = .ok (.iload_n 2, 1) := by decide +kernel
theorem dX9_take_28 : decode cX9_take 28 = .ok (.aload_n 0, 1) := by decide +kernel
theorem dX9_take_29 : decode cX9_take 29 = .ok (.getfield 15, 3) := by decide +kernel
theorem dX9_take_32 : decode cX9_take 32 = .ok (.invokevirtual 42, 3) := by decide +kernel
theorem dX9_take_35 : decode cX9_take 35 = .ok (.if_icmp .ge 27, 3) := by decide +kernel
theorem dX9_take_38 : decode cX9_take 38 = .ok (.aload_n 0, 1) := by decide +kernel
theorem dX9_take_39 : decode cX9_take 39 = .ok (.dup, 1) := by decide +kernel
theorem dX9_take_40 : decode cX9_take 40 = .ok (.getfield 26, 3) := by decide +kernel
theorem dX9_take_43 : decode cX9_take 43 = .ok (.aload_n 0, 1) := by decide +kernel
theorem dX9_take_44 : decode cX9_take 44 = .ok (.getfield 15, 3) := by decide +kernel
theorem dX9_take_47 : decode cX9_take 47 = .ok (.iload_n 2, 1) := by decide +kernel
theorem dX9_take_48 : decode cX9_take 48 = .ok (.invokevirtual 48, 3) := by decide +kernel
theorem dX9_take_51 : decode cX9_take 51 = .ok (.i2l, 1) := by decide +kernel
theorem dX9_take_52 : decode cX9_take 52 = .ok (.lmul, 1) := by decide +kernel
theorem dX9_take_53 : decode cX9_take 53 = .ok (.putfield 26, 3) := by decide +kernel
theorem dX9_take_56 : decode cX9_take 56 = .ok (.iinc 2 1, 3) := by decide +kernel
theorem dX9_take_59 : decode cX9_take 59 = .ok (.goto (-32), 3) := by decide +kernel
theorem dX9_take_62 : decode cX9_take 62 = .ok (.aload_n 0, 1) := by decide +kernel
theorem dX9_take_63 : decode cX9_take 63 = .ok (.iconst 0, 1) := by decide +kernel
theorem dX9_take_64 : decode cX9_take 64 = .ok (.aload_n 0, 1) := by decide +kernel
theorem dX9_take_65 : decode cX9_take 65 = .ok (.getfield 9, 3) := by decide +kernel
theorem dX9_take_68 : decode cX9_take 68 = .ok (.invokevirtual 52, 3) := by decide +kernel
theorem dX9_take_71 : decode cX9_take 71 = .ok (.iload_n 1, 1) := by decide +kernel
theorem dX9_take_72 : decode cX9_take 72 = .ok (.lconst 1, 1) := by decide +kernel
theorem dX9_take_73 : decode cX9_take 73 = .ok (.iconst 0, 1) := by decide +kernel
theorem dX9_take_74 : decode cX9_take 74 = .ok (.iconst 0, 1) := by decide +kernel
theorem dX9_take_75 : decode cX9_take 75 = .ok (.invokestatic 57, 3) := by decide +kernel
theorem dX9_take_78 : decode cX9_take 78 = .ok (.return_, 1) := by decide +kernel
def f_X9_take_27 (k_27 : St → Int32 → Int32 → Option St) (S : St) (x1 : Int32) (x2 : Int32) : Option St :=
  obd2 (f_X6_length S ) fun r1 S1 =>
  if r1 ≤ x2 then (
    obd2 (f_X4_begin S1 ) fun r3 S3 =>
    obd (g_X9_goOn 8 S3 0 r3 x1 (1) 0 0) fun S4 =>
    some S4
  ) else (
    obd2 (f_X6_likelyAt S1 x2) fun r5 S5 =>
    bnd (setL S5 5 5 ((S1.2.1 5 5) * (r5.toInt64))) fun S6 =>
    bnd (x2 + 1 : Int32) fun v7 =>
    k_27 S6 x1 v7
  )
def l_X9_take_27 : Nat → St → Int32 → Int32 → Option St
  | 0, _, _, _ => none
  | fu + 1, S, x1, x2 => f_X9_take_27 (l_X9_take_27 fu) S x1 x2
def f_X9_take (S : St) (x1 : Int32) : Option St :=
  bnd (setI S 5 2 x1) fun S8 =>
  bnd (setL S8 5 3 (0)) fun S9 =>
  bnd (setL S9 5 4 (0)) fun S10 =>
  bnd (setI S10 5 6 0) fun S11 =>
  bnd (setL S11 5 5 (1)) fun S12 =>
  l_X9_take_27 FU S12 x1 0
set_option maxHeartbeats 4000000 in
set_option maxRecDepth 100000 in
theorem c_X9_take {l : Launch} {D : va_G} {cI cC cS : ClassId} {ad adK adV : Nat → Nat} {S S1 : St} {x1 : Int32} (h : f_X9_take S x1 = some S1) : Kt l D (xw cI cC cS ad) (KX D (xtys cI cC cS) adK adV) yX9_take cX9_take 3 none (17) (419) [.ref (ad 5), .int x1] S (none) S1 := by
  refine k_ent (ins := .return_) (st := []) (by decide +kernel) (Nat.le_of_ble_eq_true rfl) ret_v ?_
  intro p e s m args below meth c A Q C hK I hA hq ls hl
  have C : CallFix p m c cX9_take 3 s args TT RX9 := C
  have hx := C.1
  have hb := C.2.1
  have kx := kx_ok D (xtys cI cC cS) adK adV
  have hl : lv_has ls 3 [(0, .ref (ad 5)), (1, .int x1)] := hl
  have B_27 : ∀ (k_27 : St → Int32 → Int32 → Option St) (hk_27 : ∀ (S : St) (x1 : Int32) (x2 : Int32), k_27 S x1 x2 = some S1 → ∀ (H : Heap) (locs : List Loc) (ls : Array Slot), Iv D (xw cI cC cS ad) S A s H locs → lv_has ls 3 [(0, .ref (ad 5)), (1, .int x1), (2, .int x2)] → W p l e ({ frames := 17, cells := 0, slots := 0, locals := 419 } : Room) s m args below meth c H locs 0 0 Q (F0 m 27 ls [])) (S : St) (x1 : Int32) (x2 : Int32), f_X9_take_27 k_27 S x1 x2 = some S1 → ∀ (H : Heap) (locs : List Loc) (ls : Array Slot), Iv D (xw cI cC cS ad) S A s H locs → lv_has ls 3 [(0, .ref (ad 5)), (1, .int x1), (2, .int x2)] → W p l e ({ frames := 17, cells := 0, slots := 0, locals := 419 } : Room) s m args below meth c H locs 0 0 Q (F0 m 27 ls []) := by
    intro k_27 hk_27 S x1 x2 h H locs ls I hl
    unfold f_X9_take_27 at h
    refine lv_iload_n hx hb dX9_take_27 rfl (lv_at hl 2 rfl) ?_
    refine lv_aload_n hx hb dX9_take_28 rfl (lv_at hl 0 rfl) ?_
    refine gx_5_1 C hK I fl_X9_15 dX9_take_29 ?_
    obtain ⟨r1, S1, e1, h⟩ := obd2_ex h
    refine k_V (As := []) (rest := [.int x2]) (st1 := [.int r1, .int x2]) C kx hK I hA (c_X6_length e1) ⟨Nat.le_of_ble_eq_true rfl, Nat.le_of_ble_eq_true rfl⟩ mv_X6_length lk_X9_42 4 6 (xw_4 (cI := cI) (ad := ad) (cC := cC) (cS := cS)) rfl rfl hl.1 rfl (Nat.le_of_ble_eq_true rfl) dX9_take_32 rfl (fun H locs I => ?_)
    refine lv_icmp_ge (tgt := 62) hx hb dX9_take_35 (by decide) (fun c2 => ?_) (fun c2 => ?_)
    · have h := ite_t c2 h
      refine lv_aload_n hx hb dX9_take_62 rfl (lv_at hl 0 rfl) ?_
      refine lv_iconst (v := 0) hx hb dX9_take_63 (by decide) ?_
      refine lv_aload_n hx hb dX9_take_64 rfl (lv_at hl 0 rfl) ?_
      refine gx_5_0 C hK I fl_X9_9 dX9_take_65 ?_
      obtain ⟨r3, S3, e3, h⟩ := obd2_ex h
      refine k_V (As := []) (rest := [.int 0, .ref (ad 5)]) (st1 := [.int r3, .int 0, .ref (ad 5)]) C kx hK I hA (c_X4_begin e3) ⟨Nat.le_of_ble_eq_true rfl, Nat.le_of_ble_eq_true rfl⟩ mv_X4_begin lk_X9_52 3 4 (xw_3 (cI := cI) (ad := ad) (cC := cC) (cS := cS)) rfl rfl hl.1 rfl (Nat.le_of_ble_eq_true rfl) dX9_take_68 rfl (fun H locs I => ?_)
      refine lv_iload_n hx hb dX9_take_71 rfl (lv_at hl 1 rfl) ?_
      refine lv_lconst (v := (1)) hx hb dX9_take_72 (by decide) ?_
      refine lv_iconst (v := 0) hx hb dX9_take_73 (by decide) ?_
      refine lv_iconst (v := 0) hx hb dX9_take_74 (by decide) ?_
      obtain ⟨S4, e4, h⟩ := obd_ex h
      refine k_S (As := [.ref (ad 5), .int 0, .int r3, .int x1, .long (1), .int 0, .int 0]) (rest := []) (st1 := []) C kx hK I hA (cg_X9_goOn 8 e4) ⟨Nat.le_of_ble_eq_true rfl, Nat.le_of_ble_eq_true rfl⟩ ms_X9_goOn lk_X9_57 rfl hl.1 rfl (Nat.le_of_ble_eq_true rfl) dX9_take_75 rfl (fun H locs I => ?_)
      exact rt_v hq h I dX9_take_78
    · have h := ite_n c2 h
      refine lv_aload_n hx hb dX9_take_38 rfl (lv_at hl 0 rfl) ?_
      refine lv_dup hx hb dX9_take_39 rfl ?_
      refine gx_5_5 C hK I fl_X9_26 dX9_take_40 ?_
      refine lv_aload_n hx hb dX9_take_43 rfl (lv_at hl 0 rfl) ?_
      refine gx_5_1 C hK I fl_X9_15 dX9_take_44 ?_
      refine lv_iload_n hx hb dX9_take_47 rfl (lv_at hl 2 rfl) ?_
      obtain ⟨r5, S5, e5, h⟩ := obd2_ex h
      refine k_V (As := [.int x2]) (rest := [.long (S1.2.1 5 5), .ref (ad 5)]) (st1 := [.int r5, .long (S1.2.1 5 5), .ref (ad 5)]) C kx hK I hA (c_X6_likelyAt e5) ⟨Nat.le_of_ble_eq_true rfl, Nat.le_of_ble_eq_true rfl⟩ mv_X6_likelyAt lk_X9_48 4 6 (xw_4 (cI := cI) (ad := ad) (cC := cC) (cS := cS)) rfl rfl hl.1 rfl (Nat.le_of_ble_eq_true rfl) dX9_take_48 rfl (fun H locs I => ?_)
      refine lv_i2l hx hb dX9_take_51 rfl ?_
      refine lv_lmul hx hb dX9_take_52 ?_
      refine px_5_5 C hK I fl_X9_26 dX9_take_53 (fun S6 eS6 H locs I => ?_)
      have h := bnd_at eS6 h
      clear eS6
      obtain ⟨v7, ev7⟩ : ∃ y : Int32, y = x2 + 1 := ⟨_, rfl⟩
      have h := bnd_at ev7 h
      refine lv_iinc (v := v7) (lv' := [(2, .int v7), (0, .ref (ad 5)), (1, .int x1)]) hx hb dX9_take_56 hl (k := 2) rfl (by rw [ev7]; rfl) (by decide) rfl (fun ls hl => ?_)
      clear ev7
      refine lv_goto (tgt := 27) hx hb dX9_take_59 (by decide) ?_
      exact hk_27 _ _ _ h _ _ _ I (lv_sub hl [1, 2, 0] rfl)
  have J_27 : ∀ (fu : Nat) (S : St) (x1 : Int32) (x2 : Int32), l_X9_take_27  fu S x1 x2 = some S1 → ∀ (H : Heap) (locs : List Loc) (ls : Array Slot), Iv D (xw cI cC cS ad) S A s H locs → lv_has ls 3 [(0, .ref (ad 5)), (1, .int x1), (2, .int x2)] → W p l e ({ frames := 17, cells := 0, slots := 0, locals := 419 } : Room) s m args below meth c H locs 0 0 Q (F0 m 27 ls []) := by
    intro fu
    induction fu with
    | zero => intro S x1 x2 h; cases h
    | succ fu ih => intro S x1 x2 h; exact B_27 (l_X9_take_27 fu) ih S x1 x2 h
  unfold f_X9_take at h
  refine lv_aload_n hx hb dX9_take_0 rfl (lv_at hl 0 rfl) ?_
  refine lv_iload_n hx hb dX9_take_1 rfl (lv_at hl 1 rfl) ?_
  refine px_5_2 C hK I fl_X9_39 dX9_take_2 (fun S8 eS8 H locs I => ?_)
  have h := bnd_at eS8 h
  clear eS8
  refine lv_aload_n hx hb dX9_take_5 rfl (lv_at hl 0 rfl) ?_
  refine lv_lconst (v := (0)) hx hb dX9_take_6 (by decide) ?_
  refine px_5_3 C hK I fl_X9_19 dX9_take_7 (fun S9 eS9 H locs I => ?_)
  have h := bnd_at eS9 h
  clear eS9
  refine lv_aload_n hx hb dX9_take_10 rfl (lv_at hl 0 rfl) ?_
  refine lv_lconst (v := (0)) hx hb dX9_take_11 (by decide) ?_
  refine px_5_4 C hK I fl_X9_23 dX9_take_12 (fun S10 eS10 H locs I => ?_)
  have h := bnd_at eS10 h
  clear eS10
  refine lv_aload_n hx hb dX9_take_15 rfl (lv_at hl 0 rfl) ?_
  refine lv_iconst (v := 0) hx hb dX9_take_16 (by decide) ?_
  refine px_5_6 C hK I fl_X9_29 dX9_take_17 (fun S11 eS11 H locs I => ?_)
  have h := bnd_at eS11 h
  clear eS11
  refine lv_aload_n hx hb dX9_take_20 rfl (lv_at hl 0 rfl) ?_
  refine lv_lconst (v := (1)) hx hb dX9_take_21 (by decide) ?_
  refine px_5_5 C hK I fl_X9_26 dX9_take_22 (fun S12 eS12 H locs I => ?_)
  have h := bnd_at eS12 h
  clear eS12
  refine lv_iconst (v := 0) hx hb dX9_take_25 (by decide) ?_
  refine lv_istore_n (lv' := [(2, .int 0), (0, .ref (ad 5)), (1, .int x1)]) hx hb dX9_take_26 rfl hl (by decide) rfl (fun ls hl => ?_)
  exact J_27 _ _ _ _ h _ _ _ I (lv_sub hl [1, 2, 0] rfl)
