/-! the law: its pure step, and its walk; by program, but for the beginning and the end -/
abbrev cLa_law : ByteArray := code
theorem t_170 : (Jvm.Cond.methodLink "TermBenchLaw" (13 : Nat) ({ cls := "TermBench", name := "number", desc := "(I)Z" } : Jvm.MethodName)) ∈ qw := qm (i := 170) (by decide +kernel) (by decide +kernel)
theorem t_209 : (Jvm.Cond.methodLink "TermBenchLaw" (18 : Nat) ({ cls := "TermBench", name := "name", desc := "(I)Z" } : Jvm.MethodName)) ∈ qw := qm (i := 209) (by decide +kernel) (by decide +kernel)
theorem t_216 : (Jvm.Cond.methodLink "TermBenchLaw" (22 : Nat) ({ cls := "TermBench", name := "sum", desc := "(Z)Z" } : Jvm.MethodName)) ∈ qw := qm (i := 216) (by decide +kernel) (by decide +kernel)
theorem t_251 : (Jvm.Cond.methodLink "TermBenchLaw" (27 : Nat) ({ cls := "TermBench", name := "call", desc := "(Z)Z" } : Jvm.MethodName)) ∈ qw := qm (i := 251) (by decide +kernel) (by decide +kernel)
theorem t_255 : (Jvm.Cond.methodLink "TermBenchLaw" (33 : Nat) ({ cls := "TermBench", name := "function", desc := "(IJ)Z" } : Jvm.MethodName)) ∈ qw := qm (i := 255) (by decide +kernel) (by decide +kernel)
theorem t_270 : (Jvm.Cond.methodLink "TermBenchLaw" (38 : Nat) ({ cls := "TermBench", name := "claim", desc := "(J)Z" } : Jvm.MethodName)) ∈ qw := qm (i := 270) (by decide +kernel) (by decide +kernel)
theorem t_274 : (Jvm.Cond.methodLink "TermBenchLaw" (43 : Nat) ({ cls := "TermBench", name := "remove", desc := "()Z" } : Jvm.MethodName)) ∈ qw := qm (i := 274) (by decide +kernel) (by decide +kernel)
theorem t_282 : (Jvm.Cond.methodLink "TermBenchLaw" (48 : Nat) ({ cls := "TermBench", name := "lift", desc := "()Z" } : Jvm.MethodName)) ∈ qw := qm (i := 282) (by decide +kernel) (by decide +kernel)
theorem t_294 : (Jvm.Cond.methodLink "TermBenchLaw" (52 : Nat) ({ cls := "TermBench", name := "undo", desc := "()Z" } : Jvm.MethodName)) ∈ qw := qm (i := 294) (by decide +kernel) (by decide +kernel)
theorem t_302 : (Jvm.Cond.methodLink "TermBenchLaw" (56 : Nat) ({ cls := "TermBench", name := "redo", desc := "()Z" } : Jvm.MethodName)) ∈ qw := qm (i := 302) (by decide +kernel) (by decide +kernel)
theorem t_310 : (Jvm.Cond.methodLink "TermBenchLaw" (60 : Nat) ({ cls := "TermBench", name := "up", desc := "()Z" } : Jvm.MethodName)) ∈ qw := qm (i := 310) (by decide +kernel) (by decide +kernel)
theorem t_319 : (Jvm.Cond.methodLink "TermBenchLaw" (64 : Nat) ({ cls := "TermBench", name := "down", desc := "(I)Z" } : Jvm.MethodName)) ∈ qw := qm (i := 319) (by decide +kernel) (by decide +kernel)
theorem t_327 : (Jvm.Cond.methodLink "TermBenchLaw" (68 : Nat) ({ cls := "TermBench", name := "hole", desc := "()Z" } : Jvm.MethodName)) ∈ qw := qm (i := 327) (by decide +kernel) (by decide +kernel)
theorem t_386 : (Jvm.Cond.methodLink "TermBenchLaw" (72 : Nat) ({ cls := "TermBench", name := "click", desc := "(I)Z" } : Jvm.MethodName)) ∈ qw := qm (i := 386) (by decide +kernel) (by decide +kernel)
theorem t_394 : (Jvm.Cond.methodLink "TermBenchLaw" (76 : Nat) ({ cls := "TermBench", name := "column", desc := "()I" } : Jvm.MethodName)) ∈ qw := qm (i := 394) (by decide +kernel) (by decide +kernel)
theorem t_398 : (Jvm.Cond.methodLink "TermBenchLaw" (81 : Nat) ({ cls := "TermBench", name := "kind", desc := "()I" } : Jvm.MethodName)) ∈ qw := qm (i := 398) (by decide +kernel) (by decide +kernel)
theorem t_402 : (Jvm.Cond.methodLink "TermBenchLaw" (85 : Nat) ({ cls := "TermBench", name := "mark", desc := "()I" } : Jvm.MethodName)) ∈ qw := qm (i := 402) (by decide +kernel) (by decide +kernel)
theorem t_450 : (Jvm.Cond.methodLink "TermBenchLaw" (89 : Nat) ({ cls := "TermBench", name := "got", desc := "()J" } : Jvm.MethodName)) ∈ qw := qm (i := 450) (by decide +kernel) (by decide +kernel)
theorem t_454 : (Jvm.Cond.methodLink "TermBenchLaw" (94 : Nat) ({ cls := "TermBench", name := "expected", desc := "()J" } : Jvm.MethodName)) ∈ qw := qm (i := 454) (by decide +kernel) (by decide +kernel)
theorem t_458 : (Jvm.Cond.methodLink "TermBenchLaw" (98 : Nat) ({ cls := "TermBench", name := "marks", desc := "()I" } : Jvm.MethodName)) ∈ qw := qm (i := 458) (by decide +kernel) (by decide +kernel)
theorem t_466 : (Jvm.Cond.methodLink "TermBenchLaw" (102 : Nat) ({ cls := "TermBench", name := "terms", desc := "()I" } : Jvm.MethodName)) ∈ qw := qm (i := 466) (by decide +kernel) (by decide +kernel)
theorem t_470 : (Jvm.Cond.methodLink "TermBenchLaw" (106 : Nat) ({ cls := "TermBench", name := "text", desc := "(I)J" } : Jvm.MethodName)) ∈ qw := qm (i := 470) (by decide +kernel) (by decide +kernel)
theorem t_478 : (Jvm.Cond.methodLink "TermBenchLaw" (111 : Nat) ({ cls := "TermBench", name := "run", desc := "()I" } : Jvm.MethodName)) ∈ qw := qm (i := 478) (by decide +kernel) (by decide +kernel)
theorem t_516 : (Jvm.Cond.methodLink "TermBenchLaw" (115 : Nat) ({ cls := "TermBench", name := "result", desc := "()I" } : Jvm.MethodName)) ∈ qw := qm (i := 516) (by decide +kernel) (by decide +kernel)
theorem t_520 : (Jvm.Cond.methodLink "TermBenchLaw" (119 : Nat) ({ cls := "TermBench", name := "units", desc := "()I" } : Jvm.MethodName)) ∈ qw := qm (i := 520) (by decide +kernel) (by decide +kernel)
theorem t_657 : (Jvm.Cond.methodLink "TermBenchLaw" (55 : Nat) ({ cls := "TermBenchModel", name := "undo", desc := "()Z" } : Jvm.MethodName)) ∈ qw := qm (i := 657) (by decide +kernel) (by decide +kernel)
theorem t_669 : (Jvm.Cond.methodLink "TermBenchLaw" (59 : Nat) ({ cls := "TermBenchModel", name := "redo", desc := "()Z" } : Jvm.MethodName)) ∈ qw := qm (i := 669) (by decide +kernel) (by decide +kernel)
theorem t_673 : (Jvm.Cond.methodLink "TermBenchLaw" (17 : Nat) ({ cls := "TermBenchModel", name := "number", desc := "(I)Z" } : Jvm.MethodName)) ∈ qw := qm (i := 673) (by decide +kernel) (by decide +kernel)
theorem t_700 : (Jvm.Cond.methodLink "TermBenchLaw" (21 : Nat) ({ cls := "TermBenchModel", name := "name", desc := "(I)Z" } : Jvm.MethodName)) ∈ qw := qm (i := 700) (by decide +kernel) (by decide +kernel)
theorem t_704 : (Jvm.Cond.methodLink "TermBenchLaw" (26 : Nat) ({ cls := "TermBenchModel", name := "sum", desc := "(Z)Z" } : Jvm.MethodName)) ∈ qw := qm (i := 704) (by decide +kernel) (by decide +kernel)
theorem t_720 : (Jvm.Cond.methodLink "TermBenchLaw" (30 : Nat) ({ cls := "TermBenchModel", name := "call", desc := "(Z)Z" } : Jvm.MethodName)) ∈ qw := qm (i := 720) (by decide +kernel) (by decide +kernel)
theorem t_724 : (Jvm.Cond.methodLink "TermBenchLaw" (37 : Nat) ({ cls := "TermBenchModel", name := "function", desc := "(IJ)Z" } : Jvm.MethodName)) ∈ qw := qm (i := 724) (by decide +kernel) (by decide +kernel)
theorem t_738 : (Jvm.Cond.methodLink "TermBenchLaw" (42 : Nat) ({ cls := "TermBenchModel", name := "claim", desc := "(J)Z" } : Jvm.MethodName)) ∈ qw := qm (i := 738) (by decide +kernel) (by decide +kernel)
theorem t_742 : (Jvm.Cond.methodLink "TermBenchLaw" (47 : Nat) ({ cls := "TermBenchModel", name := "remove", desc := "()Z" } : Jvm.MethodName)) ∈ qw := qm (i := 742) (by decide +kernel) (by decide +kernel)
theorem t_750 : (Jvm.Cond.methodLink "TermBenchLaw" (51 : Nat) ({ cls := "TermBenchModel", name := "lift", desc := "()Z" } : Jvm.MethodName)) ∈ qw := qm (i := 750) (by decide +kernel) (by decide +kernel)
theorem t_758 : (Jvm.Cond.methodLink "TermBenchLaw" (63 : Nat) ({ cls := "TermBenchModel", name := "up", desc := "()Z" } : Jvm.MethodName)) ∈ qw := qm (i := 758) (by decide +kernel) (by decide +kernel)
theorem t_762 : (Jvm.Cond.methodLink "TermBenchLaw" (67 : Nat) ({ cls := "TermBenchModel", name := "down", desc := "(I)Z" } : Jvm.MethodName)) ∈ qw := qm (i := 762) (by decide +kernel) (by decide +kernel)
theorem t_770 : (Jvm.Cond.methodLink "TermBenchLaw" (71 : Nat) ({ cls := "TermBenchModel", name := "hole", desc := "()Z" } : Jvm.MethodName)) ∈ qw := qm (i := 770) (by decide +kernel) (by decide +kernel)
theorem t_798 : (Jvm.Cond.methodLink "TermBenchLaw" (75 : Nat) ({ cls := "TermBenchModel", name := "click", desc := "(I)Z" } : Jvm.MethodName)) ∈ qw := qm (i := 798) (by decide +kernel) (by decide +kernel)
theorem t_802 : (Jvm.Cond.methodLink "TermBenchLaw" (80 : Nat) ({ cls := "TermBenchModel", name := "column", desc := "()I" } : Jvm.MethodName)) ∈ qw := qm (i := 802) (by decide +kernel) (by decide +kernel)
theorem t_806 : (Jvm.Cond.methodLink "TermBenchLaw" (84 : Nat) ({ cls := "TermBenchModel", name := "kind", desc := "()I" } : Jvm.MethodName)) ∈ qw := qm (i := 806) (by decide +kernel) (by decide +kernel)
theorem t_810 : (Jvm.Cond.methodLink "TermBenchLaw" (110 : Nat) ({ cls := "TermBenchModel", name := "text", desc := "(I)J" } : Jvm.MethodName)) ∈ qw := qm (i := 810) (by decide +kernel) (by decide +kernel)
theorem t_814 : (Jvm.Cond.methodLink "TermBenchLaw" (88 : Nat) ({ cls := "TermBenchModel", name := "mark", desc := "()I" } : Jvm.MethodName)) ∈ qw := qm (i := 814) (by decide +kernel) (by decide +kernel)
theorem t_861 : (Jvm.Cond.methodLink "TermBenchLaw" (93 : Nat) ({ cls := "TermBenchModel", name := "got", desc := "()J" } : Jvm.MethodName)) ∈ qw := qm (i := 861) (by decide +kernel) (by decide +kernel)
theorem t_865 : (Jvm.Cond.methodLink "TermBenchLaw" (97 : Nat) ({ cls := "TermBenchModel", name := "expected", desc := "()J" } : Jvm.MethodName)) ∈ qw := qm (i := 865) (by decide +kernel) (by decide +kernel)
theorem t_869 : (Jvm.Cond.methodLink "TermBenchLaw" (101 : Nat) ({ cls := "TermBenchModel", name := "marks", desc := "()I" } : Jvm.MethodName)) ∈ qw := qm (i := 869) (by decide +kernel) (by decide +kernel)
theorem t_873 : (Jvm.Cond.methodLink "TermBenchLaw" (105 : Nat) ({ cls := "TermBenchModel", name := "terms", desc := "()I" } : Jvm.MethodName)) ∈ qw := qm (i := 873) (by decide +kernel) (by decide +kernel)
theorem t_877 : (Jvm.Cond.methodLink "TermBenchLaw" (114 : Nat) ({ cls := "TermBenchModel", name := "run", desc := "()I" } : Jvm.MethodName)) ∈ qw := qm (i := 877) (by decide +kernel) (by decide +kernel)
theorem t_909 : (Jvm.Cond.methodLink "TermBenchLaw" (118 : Nat) ({ cls := "TermBenchModel", name := "result", desc := "()I" } : Jvm.MethodName)) ∈ qw := qm (i := 909) (by decide +kernel) (by decide +kernel)
theorem t_913 : (Jvm.Cond.methodLink "TermBenchLaw" (122 : Nat) ({ cls := "TermBenchModel", name := "units", desc := "()I" } : Jvm.MethodName)) ∈ qw := qm (i := 913) (by decide +kernel) (by decide +kernel)
theorem t_917 : (Jvm.Cond.constantLong "TermBenchLaw" (31 : Nat) (4294967295 : Int64)) ∈ qw := qm (i := 917) (by decide +kernel) (by decide +kernel)
theorem dLa_law_0 : decode cLa_law 0 = .ok (.new 7, 3) := by decide +kernel
theorem dLa_law_3 : decode cLa_law 3 = .ok (.dup, 1) := by decide +kernel
theorem dLa_law_4 : decode cLa_law 4 = .ok (.invokespecial 9, 3) := by decide +kernel
theorem dLa_law_7 : decode cLa_law 7 = .ok (.astore_n 1, 1) := by decide +kernel
theorem dLa_law_8 : decode cLa_law 8 = .ok (.new 10, 3) := by decide +kernel
theorem dLa_law_11 : decode cLa_law 11 = .ok (.dup, 1) := by decide +kernel
theorem dLa_law_12 : decode cLa_law 12 = .ok (.invokespecial 12, 3) := by decide +kernel
theorem dLa_law_15 : decode cLa_law 15 = .ok (.astore_n 2, 1) := by decide +kernel
theorem dLa_law_16 : decode cLa_law 16 = .ok (.iconst 0, 1) := by decide +kernel
theorem dLa_law_17 : decode cLa_law 17 = .ok (.istore_n 3, 1) := by decide +kernel
theorem dLa_law_18 : decode cLa_law 18 = .ok (.iload_n 3, 1) := by decide +kernel
theorem dLa_law_19 : decode cLa_law 19 = .ok (.aload_n 0, 1) := by decide +kernel
theorem dLa_law_20 : decode cLa_law 20 = .ok (.arraylength, 1) := by decide +kernel
theorem dLa_law_21 : decode cLa_law 21 = .ok (.iconst 4, 1) := by decide +kernel
theorem dLa_law_22 : decode cLa_law 22 = .ok (.isub, 1) := by decide +kernel
theorem dLa_law_23 : decode cLa_law 23 = .ok (.if_icmp .gt 651, 3) := by decide +kernel
theorem dLa_law_26 : decode cLa_law 26 = .ok (.aload_n 0, 1) := by decide +kernel
theorem dLa_law_27 : decode cLa_law 27 = .ok (.iload_n 3, 1) := by decide +kernel
theorem dLa_law_28 : decode cLa_law 28 = .ok (.iaload, 1) := by decide +kernel
theorem dLa_law_29 : decode cLa_law 29 = .ok (.bipush 31, 2) := by decide +kernel
theorem dLa_law_31 : decode cLa_law 31 = .ok (.iand, 1) := by decide +kernel
theorem dLa_law_32 : decode cLa_law 32 = .ok (.tableswitch 636 0 24 #[116, 139, 162, 201, 240, 303, 356, 369, 382, 395, 408, 421, 444, 457, 480, 493, 506, 519, 533, 547, 560, 573, 597, 610, 623], 116) := by decide +kernel
theorem dLa_law_148 : decode cLa_law 148 = .ok (.aload_n 1, 1) := by decide +kernel
theorem dLa_law_149 : decode cLa_law 149 = .ok (.aload_n 0, 1) := by decide +kernel
theorem dLa_law_150 : decode cLa_law 150 = .ok (.iload_n 3, 1) := by decide +kernel
theorem dLa_law_151 : decode cLa_law 151 = .ok (.iconst 1, 1) := by decide +kernel
theorem dLa_law_152 : decode cLa_law 152 = .ok (.iadd, 1) := by decide +kernel
theorem dLa_law_153 : decode cLa_law 153 = .ok (.iaload, 1) := by decide +kernel
theorem dLa_law_154 : decode cLa_law 154 = .ok (.invokevirtual 13, 3) := by decide +kernel
theorem dLa_law_157 : decode cLa_law 157 = .ok (.aload_n 2, 1) := by decide +kernel
theorem dLa_law_158 : decode cLa_law 158 = .ok (.aload_n 0, 1) := by decide +kernel
theorem dLa_law_159 : decode cLa_law 159 = .ok (.iload_n 3, 1) := by decide +kernel
theorem dLa_law_160 : decode cLa_law 160 = .ok (.iconst 1, 1) := by decide +kernel
theorem dLa_law_161 : decode cLa_law 161 = .ok (.iadd, 1) := by decide +kernel
theorem dLa_law_162 : decode cLa_law 162 = .ok (.iaload, 1) := by decide +kernel
theorem dLa_law_163 : decode cLa_law 163 = .ok (.invokevirtual 17, 3) := by decide +kernel
theorem dLa_law_166 : decode cLa_law 166 = .ok (.if_icmp .eq 502, 3) := by decide +kernel
theorem dLa_law_169 : decode cLa_law 169 = .ok (.iconst 0, 1) := by decide +kernel
theorem dLa_law_170 : decode cLa_law 170 = .ok (.ireturn, 1) := by decide +kernel
theorem dLa_law_171 : decode cLa_law 171 = .ok (.aload_n 1, 1) := by decide +kernel
theorem dLa_law_172 : decode cLa_law 172 = .ok (.aload_n 0, 1) := by decide +kernel
theorem dLa_law_173 : decode cLa_law 173 = .ok (.iload_n 3, 1) := by decide +kernel
theorem dLa_law_174 : decode cLa_law 174 = .ok (.iconst 1, 1) := by decide +kernel
theorem dLa_law_175 : decode cLa_law 175 = .ok (.iadd, 1) := by decide +kernel
theorem dLa_law_176 : decode cLa_law 176 = .ok (.iaload, 1) := by decide +kernel
theorem dLa_law_177 : decode cLa_law 177 = .ok (.invokevirtual 18, 3) := by decide +kernel
theorem dLa_law_180 : decode cLa_law 180 = .ok (.aload_n 2, 1) := by decide +kernel
theorem dLa_law_181 : decode cLa_law 181 = .ok (.aload_n 0, 1) := by decide +kernel
theorem dLa_law_182 : decode cLa_law 182 = .ok (.iload_n 3, 1) := by decide +kernel
theorem dLa_law_183 : decode cLa_law 183 = .ok (.iconst 1, 1) := by decide +kernel
theorem dLa_law_184 : decode cLa_law 184 = .ok (.iadd, 1) := by decide +kernel
theorem dLa_law_185 : decode cLa_law 185 = .ok (.iaload, 1) := by decide +kernel
theorem dLa_law_186 : decode cLa_law 186 = .ok (.invokevirtual 21, 3) := by decide +kernel
theorem dLa_law_189 : decode cLa_law 189 = .ok (.if_icmp .eq 479, 3) := by decide +kernel
theorem dLa_law_192 : decode cLa_law 192 = .ok (.iconst 0, 1) := by decide +kernel
theorem dLa_law_193 : decode cLa_law 193 = .ok (.ireturn, 1) := by decide +kernel
theorem dLa_law_194 : decode cLa_law 194 = .ok (.aload_n 1, 1) := by decide +kernel
theorem dLa_law_195 : decode cLa_law 195 = .ok (.aload_n 0, 1) := by decide +kernel
theorem dLa_law_196 : decode cLa_law 196 = .ok (.iload_n 3, 1) := by decide +kernel
theorem dLa_law_197 : decode cLa_law 197 = .ok (.iconst 1, 1) := by decide +kernel
theorem dLa_law_198 : decode cLa_law 198 = .ok (.iadd, 1) := by decide +kernel
theorem dLa_law_199 : decode cLa_law 199 = .ok (.iaload, 1) := by decide +kernel
theorem dLa_law_200 : decode cLa_law 200 = .ok (.ifCond .eq 7, 3) := by decide +kernel
theorem dLa_law_203 : decode cLa_law 203 = .ok (.iconst 1, 1) := by decide +kernel
theorem dLa_law_204 : decode cLa_law 204 = .ok (.goto 4, 3) := by decide +kernel
theorem dLa_law_207 : decode cLa_law 207 = .ok (.iconst 0, 1) := by decide +kernel
theorem dLa_law_208 : decode cLa_law 208 = .ok (.invokevirtual 22, 3) := by decide +kernel
theorem dLa_law_211 : decode cLa_law 211 = .ok (.aload_n 2, 1) := by decide +kernel
theorem dLa_law_212 : decode cLa_law 212 = .ok (.aload_n 0, 1) := by decide +kernel
theorem dLa_law_213 : decode cLa_law 213 = .ok (.iload_n 3, 1) := by decide +kernel
theorem dLa_law_214 : decode cLa_law 214 = .ok (.iconst 1, 1) := by decide +kernel
theorem dLa_law_215 : decode cLa_law 215 = .ok (.iadd, 1) := by decide +kernel
theorem dLa_law_216 : decode cLa_law 216 = .ok (.iaload, 1) := by decide +kernel
theorem dLa_law_217 : decode cLa_law 217 = .ok (.ifCond .eq 7, 3) := by decide +kernel
theorem dLa_law_220 : decode cLa_law 220 = .ok (.iconst 1, 1) := by decide +kernel
theorem dLa_law_221 : decode cLa_law 221 = .ok (.goto 4, 3) := by decide +kernel
theorem dLa_law_224 : decode cLa_law 224 = .ok (.iconst 0, 1) := by decide +kernel
theorem dLa_law_225 : decode cLa_law 225 = .ok (.invokevirtual 26, 3) := by decide +kernel
theorem dLa_law_228 : decode cLa_law 228 = .ok (.if_icmp .eq 440, 3) := by decide +kernel
theorem dLa_law_231 : decode cLa_law 231 = .ok (.iconst 0, 1) := by decide +kernel
theorem dLa_law_232 : decode cLa_law 232 = .ok (.ireturn, 1) := by decide +kernel
theorem dLa_law_233 : decode cLa_law 233 = .ok (.aload_n 1, 1) := by decide +kernel
theorem dLa_law_234 : decode cLa_law 234 = .ok (.aload_n 0, 1) := by decide +kernel
theorem dLa_law_235 : decode cLa_law 235 = .ok (.iload_n 3, 1) := by decide +kernel
theorem dLa_law_236 : decode cLa_law 236 = .ok (.iconst 1, 1) := by decide +kernel
theorem dLa_law_237 : decode cLa_law 237 = .ok (.iadd, 1) := by decide +kernel
theorem dLa_law_238 : decode cLa_law 238 = .ok (.iaload, 1) := by decide +kernel
theorem dLa_law_239 : decode cLa_law 239 = .ok (.ifCond .eq 7, 3) := by decide +kernel
theorem dLa_law_242 : decode cLa_law 242 = .ok (.iconst 1, 1) := by decide +kernel
theorem dLa_law_243 : decode cLa_law 243 = .ok (.goto 4, 3) := by decide +kernel
theorem dLa_law_246 : decode cLa_law 246 = .ok (.iconst 0, 1) := by decide +kernel
theorem dLa_law_247 : decode cLa_law 247 = .ok (.invokevirtual 27, 3) := by decide +kernel
theorem dLa_law_250 : decode cLa_law 250 = .ok (.aload_n 2, 1) := by decide +kernel
theorem dLa_law_251 : decode cLa_law 251 = .ok (.aload_n 0, 1) := by decide +kernel
theorem dLa_law_252 : decode cLa_law 252 = .ok (.iload_n 3, 1) := by decide +kernel
theorem dLa_law_253 : decode cLa_law 253 = .ok (.iconst 1, 1) := by decide +kernel
theorem dLa_law_254 : decode cLa_law 254 = .ok (.iadd, 1) := by decide +kernel
theorem dLa_law_255 : decode cLa_law 255 = .ok (.iaload, 1) := by decide +kernel
theorem dLa_law_256 : decode cLa_law 256 = .ok (.ifCond .eq 7, 3) := by decide +kernel
theorem dLa_law_259 : decode cLa_law 259 = .ok (.iconst 1, 1) := by decide +kernel
theorem dLa_law_260 : decode cLa_law 260 = .ok (.goto 4, 3) := by decide +kernel
theorem dLa_law_263 : decode cLa_law 263 = .ok (.iconst 0, 1) := by decide +kernel
theorem dLa_law_264 : decode cLa_law 264 = .ok (.invokevirtual 30, 3) := by decide +kernel
theorem dLa_law_267 : decode cLa_law 267 = .ok (.if_icmp .eq 401, 3) := by decide +kernel
theorem dLa_law_270 : decode cLa_law 270 = .ok (.iconst 0, 1) := by decide +kernel
theorem dLa_law_271 : decode cLa_law 271 = .ok (.ireturn, 1) := by decide +kernel
theorem dLa_law_272 : decode cLa_law 272 = .ok (.aload_n 1, 1) := by decide +kernel
theorem dLa_law_273 : decode cLa_law 273 = .ok (.aload_n 0, 1) := by decide +kernel
theorem dLa_law_274 : decode cLa_law 274 = .ok (.iload_n 3, 1) := by decide +kernel
theorem dLa_law_275 : decode cLa_law 275 = .ok (.iconst 1, 1) := by decide +kernel
theorem dLa_law_276 : decode cLa_law 276 = .ok (.iadd, 1) := by decide +kernel
theorem dLa_law_277 : decode cLa_law 277 = .ok (.iaload, 1) := by decide +kernel
theorem dLa_law_278 : decode cLa_law 278 = .ok (.aload_n 0, 1) := by decide +kernel
theorem dLa_law_279 : decode cLa_law 279 = .ok (.iload_n 3, 1) := by decide +kernel
theorem dLa_law_280 : decode cLa_law 280 = .ok (.iconst 2, 1) := by decide +kernel
theorem dLa_law_281 : decode cLa_law 281 = .ok (.iadd, 1) := by decide +kernel
theorem dLa_law_282 : decode cLa_law 282 = .ok (.iaload, 1) := by decide +kernel
theorem dLa_law_283 : decode cLa_law 283 = .ok (.i2l, 1) := by decide +kernel
theorem dLa_law_284 : decode cLa_law 284 = .ok (.bipush 32, 2) := by decide +kernel
theorem dLa_law_286 : decode cLa_law 286 = .ok (.lshl, 1) := by decide +kernel
theorem dLa_law_287 : decode cLa_law 287 = .ok (.aload_n 0, 1) := by decide +kernel
theorem dLa_law_288 : decode cLa_law 288 = .ok (.iload_n 3, 1) := by decide +kernel
theorem dLa_law_289 : decode cLa_law 289 = .ok (.iconst 3, 1) := by decide +kernel
theorem dLa_law_290 : decode cLa_law 290 = .ok (.iadd, 1) := by decide +kernel
theorem dLa_law_291 : decode cLa_law 291 = .ok (.iaload, 1) := by decide +kernel
theorem dLa_law_292 : decode cLa_law 292 = .ok (.i2l, 1) := by decide +kernel
theorem dLa_law_293 : decode cLa_law 293 = .ok (.ldc2_w 31, 3) := by decide +kernel
theorem dLa_law_296 : decode cLa_law 296 = .ok (.land, 1) := by decide +kernel
theorem dLa_law_297 : decode cLa_law 297 = .ok (.lor, 1) := by decide +kernel
theorem dLa_law_298 : decode cLa_law 298 = .ok (.invokevirtual 33, 3) := by decide +kernel
theorem dLa_law_301 : decode cLa_law 301 = .ok (.aload_n 2, 1) := by decide +kernel
theorem dLa_law_302 : decode cLa_law 302 = .ok (.aload_n 0, 1) := by decide +kernel
theorem dLa_law_303 : decode cLa_law 303 = .ok (.iload_n 3, 1) := by decide +kernel
theorem dLa_law_304 : decode cLa_law 304 = .ok (.iconst 1, 1) := by decide +kernel
theorem dLa_law_305 : decode cLa_law 305 = .ok (.iadd, 1) := by decide +kernel
theorem dLa_law_306 : decode cLa_law 306 = .ok (.iaload, 1) := by decide +kernel
theorem dLa_law_307 : decode cLa_law 307 = .ok (.aload_n 0, 1) := by decide +kernel
theorem dLa_law_308 : decode cLa_law 308 = .ok (.iload_n 3, 1) := by decide +kernel
theorem dLa_law_309 : decode cLa_law 309 = .ok (.iconst 2, 1) := by decide +kernel
theorem dLa_law_310 : decode cLa_law 310 = .ok (.iadd, 1) := by decide +kernel
theorem dLa_law_311 : decode cLa_law 311 = .ok (.iaload, 1) := by decide +kernel
theorem dLa_law_312 : decode cLa_law 312 = .ok (.i2l, 1) := by decide +kernel
theorem dLa_law_313 : decode cLa_law 313 = .ok (.bipush 32, 2) := by decide +kernel
theorem dLa_law_315 : decode cLa_law 315 = .ok (.lshl, 1) := by decide +kernel
theorem dLa_law_316 : decode cLa_law 316 = .ok (.aload_n 0, 1) := by decide +kernel
theorem dLa_law_317 : decode cLa_law 317 = .ok (.iload_n 3, 1) := by decide +kernel
theorem dLa_law_318 : decode cLa_law 318 = .ok (.iconst 3, 1) := by decide +kernel
theorem dLa_law_319 : decode cLa_law 319 = .ok (.iadd, 1) := by decide +kernel
theorem dLa_law_320 : decode cLa_law 320 = .ok (.iaload, 1) := by decide +kernel
theorem dLa_law_321 : decode cLa_law 321 = .ok (.i2l, 1) := by decide +kernel
theorem dLa_law_322 : decode cLa_law 322 = .ok (.ldc2_w 31, 3) := by decide +kernel
theorem dLa_law_325 : decode cLa_law 325 = .ok (.land, 1) := by decide +kernel
theorem dLa_law_326 : decode cLa_law 326 = .ok (.lor, 1) := by decide +kernel
theorem dLa_law_327 : decode cLa_law 327 = .ok (.invokevirtual 37, 3) := by decide +kernel
theorem dLa_law_330 : decode cLa_law 330 = .ok (.if_icmp .eq 338, 3) := by decide +kernel
theorem dLa_law_333 : decode cLa_law 333 = .ok (.iconst 0, 1) := by decide +kernel
theorem dLa_law_334 : decode cLa_law 334 = .ok (.ireturn, 1) := by decide +kernel
theorem dLa_law_335 : decode cLa_law 335 = .ok (.aload_n 1, 1) := by decide +kernel
theorem dLa_law_336 : decode cLa_law 336 = .ok (.aload_n 0, 1) := by decide +kernel
theorem dLa_law_337 : decode cLa_law 337 = .ok (.iload_n 3, 1) := by decide +kernel
theorem dLa_law_338 : decode cLa_law 338 = .ok (.iconst 1, 1) := by decide +kernel
theorem dLa_law_339 : decode cLa_law 339 = .ok (.iadd, 1) := by decide +kernel
theorem dLa_law_340 : decode cLa_law 340 = .ok (.iaload, 1) := by decide +kernel
theorem dLa_law_341 : decode cLa_law 341 = .ok (.i2l, 1) := by decide +kernel
theorem dLa_law_342 : decode cLa_law 342 = .ok (.bipush 32, 2) := by decide +kernel
theorem dLa_law_344 : decode cLa_law 344 = .ok (.lshl, 1) := by decide +kernel
theorem dLa_law_345 : decode cLa_law 345 = .ok (.aload_n 0, 1) := by decide +kernel
theorem dLa_law_346 : decode cLa_law 346 = .ok (.iload_n 3, 1) := by decide +kernel
theorem dLa_law_347 : decode cLa_law 347 = .ok (.iconst 2, 1) := by decide +kernel
theorem dLa_law_348 : decode cLa_law 348 = .ok (.iadd, 1) := by decide +kernel
theorem dLa_law_349 : decode cLa_law 349 = .ok (.iaload, 1) := by decide +kernel
theorem dLa_law_350 : decode cLa_law 350 = .ok (.i2l, 1) := by decide +kernel
theorem dLa_law_351 : decode cLa_law 351 = .ok (.ldc2_w 31, 3) := by decide +kernel
theorem dLa_law_354 : decode cLa_law 354 = .ok (.land, 1) := by decide +kernel
theorem dLa_law_355 : decode cLa_law 355 = .ok (.lor, 1) := by decide +kernel
theorem dLa_law_356 : decode cLa_law 356 = .ok (.invokevirtual 38, 3) := by decide +kernel
theorem dLa_law_359 : decode cLa_law 359 = .ok (.aload_n 2, 1) := by decide +kernel
theorem dLa_law_360 : decode cLa_law 360 = .ok (.aload_n 0, 1) := by decide +kernel
theorem dLa_law_361 : decode cLa_law 361 = .ok (.iload_n 3, 1) := by decide +kernel
theorem dLa_law_362 : decode cLa_law 362 = .ok (.iconst 1, 1) := by decide +kernel
theorem dLa_law_363 : decode cLa_law 363 = .ok (.iadd, 1) := by decide +kernel
theorem dLa_law_364 : decode cLa_law 364 = .ok (.iaload, 1) := by decide +kernel
theorem dLa_law_365 : decode cLa_law 365 = .ok (.i2l, 1) := by decide +kernel
theorem dLa_law_366 : decode cLa_law 366 = .ok (.bipush 32, 2) := by decide +kernel
theorem dLa_law_368 : decode cLa_law 368 = .ok (.lshl, 1) := by decide +kernel
theorem dLa_law_369 : decode cLa_law 369 = .ok (.aload_n 0, 1) := by decide +kernel
theorem dLa_law_370 : decode cLa_law 370 = .ok (.iload_n 3, 1) := by decide +kernel
theorem dLa_law_371 : decode cLa_law 371 = .ok (.iconst 2, 1) := by decide +kernel
theorem dLa_law_372 : decode cLa_law 372 = .ok (.iadd, 1) := by decide +kernel
theorem dLa_law_373 : decode cLa_law 373 = .ok (.iaload, 1) := by decide +kernel
theorem dLa_law_374 : decode cLa_law 374 = .ok (.i2l, 1) := by decide +kernel
theorem dLa_law_375 : decode cLa_law 375 = .ok (.ldc2_w 31, 3) := by decide +kernel
theorem dLa_law_378 : decode cLa_law 378 = .ok (.land, 1) := by decide +kernel
theorem dLa_law_379 : decode cLa_law 379 = .ok (.lor, 1) := by decide +kernel
theorem dLa_law_380 : decode cLa_law 380 = .ok (.invokevirtual 42, 3) := by decide +kernel
theorem dLa_law_383 : decode cLa_law 383 = .ok (.if_icmp .eq 285, 3) := by decide +kernel
theorem dLa_law_386 : decode cLa_law 386 = .ok (.iconst 0, 1) := by decide +kernel
theorem dLa_law_387 : decode cLa_law 387 = .ok (.ireturn, 1) := by decide +kernel
theorem dLa_law_388 : decode cLa_law 388 = .ok (.aload_n 1, 1) := by decide +kernel
theorem dLa_law_389 : decode cLa_law 389 = .ok (.invokevirtual 43, 3) := by decide +kernel
theorem dLa_law_392 : decode cLa_law 392 = .ok (.aload_n 2, 1) := by decide +kernel
theorem dLa_law_393 : decode cLa_law 393 = .ok (.invokevirtual 47, 3) := by decide +kernel
theorem dLa_law_396 : decode cLa_law 396 = .ok (.if_icmp .eq 272, 3) := by decide +kernel
theorem dLa_law_399 : decode cLa_law 399 = .ok (.iconst 0, 1) := by decide +kernel
theorem dLa_law_400 : decode cLa_law 400 = .ok (.ireturn, 1) := by decide +kernel
theorem dLa_law_401 : decode cLa_law 401 = .ok (.aload_n 1, 1) := by decide +kernel
theorem dLa_law_402 : decode cLa_law 402 = .ok (.invokevirtual 48, 3) := by decide +kernel
theorem dLa_law_405 : decode cLa_law 405 = .ok (.aload_n 2, 1) := by decide +kernel
theorem dLa_law_406 : decode cLa_law 406 = .ok (.invokevirtual 51, 3) := by decide +kernel
theorem dLa_law_409 : decode cLa_law 409 = .ok (.if_icmp .eq 259, 3) := by decide +kernel
theorem dLa_law_412 : decode cLa_law 412 = .ok (.iconst 0, 1) := by decide +kernel
theorem dLa_law_413 : decode cLa_law 413 = .ok (.ireturn, 1) := by decide +kernel
theorem dLa_law_414 : decode cLa_law 414 = .ok (.aload_n 1, 1) := by decide +kernel
theorem dLa_law_415 : decode cLa_law 415 = .ok (.invokevirtual 52, 3) := by decide +kernel
theorem dLa_law_418 : decode cLa_law 418 = .ok (.aload_n 2, 1) := by decide +kernel
theorem dLa_law_419 : decode cLa_law 419 = .ok (.invokevirtual 55, 3) := by decide +kernel
theorem dLa_law_422 : decode cLa_law 422 = .ok (.if_icmp .eq 246, 3) := by decide +kernel
theorem dLa_law_425 : decode cLa_law 425 = .ok (.iconst 0, 1) := by decide +kernel
theorem dLa_law_426 : decode cLa_law 426 = .ok (.ireturn, 1) := by decide +kernel
theorem dLa_law_427 : decode cLa_law 427 = .ok (.aload_n 1, 1) := by decide +kernel
theorem dLa_law_428 : decode cLa_law 428 = .ok (.invokevirtual 56, 3) := by decide +kernel
theorem dLa_law_431 : decode cLa_law 431 = .ok (.aload_n 2, 1) := by decide +kernel
theorem dLa_law_432 : decode cLa_law 432 = .ok (.invokevirtual 59, 3) := by decide +kernel
theorem dLa_law_435 : decode cLa_law 435 = .ok (.if_icmp .eq 233, 3) := by decide +kernel
theorem dLa_law_438 : decode cLa_law 438 = .ok (.iconst 0, 1) := by decide +kernel
theorem dLa_law_439 : decode cLa_law 439 = .ok (.ireturn, 1) := by decide +kernel
theorem dLa_law_440 : decode cLa_law 440 = .ok (.aload_n 1, 1) := by decide +kernel
theorem dLa_law_441 : decode cLa_law 441 = .ok (.invokevirtual 60, 3) := by decide +kernel
theorem dLa_law_444 : decode cLa_law 444 = .ok (.aload_n 2, 1) := by decide +kernel
theorem dLa_law_445 : decode cLa_law 445 = .ok (.invokevirtual 63, 3) := by decide +kernel
theorem dLa_law_448 : decode cLa_law 448 = .ok (.if_icmp .eq 220, 3) := by decide +kernel
theorem dLa_law_451 : decode cLa_law 451 = .ok (.iconst 0, 1) := by decide +kernel
theorem dLa_law_452 : decode cLa_law 452 = .ok (.ireturn, 1) := by decide +kernel
theorem dLa_law_453 : decode cLa_law 453 = .ok (.aload_n 1, 1) := by decide +kernel
theorem dLa_law_454 : decode cLa_law 454 = .ok (.aload_n 0, 1) := by decide +kernel
theorem dLa_law_455 : decode cLa_law 455 = .ok (.iload_n 3, 1) := by decide +kernel
theorem dLa_law_456 : decode cLa_law 456 = .ok (.iconst 1, 1) := by decide +kernel
theorem dLa_law_457 : decode cLa_law 457 = .ok (.iadd, 1) := by decide +kernel
theorem dLa_law_458 : decode cLa_law 458 = .ok (.iaload, 1) := by decide +kernel
theorem dLa_law_459 : decode cLa_law 459 = .ok (.invokevirtual 64, 3) := by decide +kernel
theorem dLa_law_462 : decode cLa_law 462 = .ok (.aload_n 2, 1) := by decide +kernel
theorem dLa_law_463 : decode cLa_law 463 = .ok (.aload_n 0, 1) := by decide +kernel
theorem dLa_law_464 : decode cLa_law 464 = .ok (.iload_n 3, 1) := by decide +kernel
theorem dLa_law_465 : decode cLa_law 465 = .ok (.iconst 1, 1) := by decide +kernel
theorem dLa_law_466 : decode cLa_law 466 = .ok (.iadd, 1) := by decide +kernel
theorem dLa_law_467 : decode cLa_law 467 = .ok (.iaload, 1) := by decide +kernel
theorem dLa_law_468 : decode cLa_law 468 = .ok (.invokevirtual 67, 3) := by decide +kernel
theorem dLa_law_471 : decode cLa_law 471 = .ok (.if_icmp .eq 197, 3) := by decide +kernel
theorem dLa_law_474 : decode cLa_law 474 = .ok (.iconst 0, 1) := by decide +kernel
theorem dLa_law_475 : decode cLa_law 475 = .ok (.ireturn, 1) := by decide +kernel
theorem dLa_law_476 : decode cLa_law 476 = .ok (.aload_n 1, 1) := by decide +kernel
theorem dLa_law_477 : decode cLa_law 477 = .ok (.invokevirtual 68, 3) := by decide +kernel
theorem dLa_law_480 : decode cLa_law 480 = .ok (.aload_n 2, 1) := by decide +kernel
theorem dLa_law_481 : decode cLa_law 481 = .ok (.invokevirtual 71, 3) := by decide +kernel
theorem dLa_law_484 : decode cLa_law 484 = .ok (.if_icmp .eq 184, 3) := by decide +kernel
theorem dLa_law_487 : decode cLa_law 487 = .ok (.iconst 0, 1) := by decide +kernel
theorem dLa_law_488 : decode cLa_law 488 = .ok (.ireturn, 1) := by decide +kernel
theorem dLa_law_489 : decode cLa_law 489 = .ok (.aload_n 1, 1) := by decide +kernel
theorem dLa_law_490 : decode cLa_law 490 = .ok (.aload_n 0, 1) := by decide +kernel
theorem dLa_law_491 : decode cLa_law 491 = .ok (.iload_n 3, 1) := by decide +kernel
theorem dLa_law_492 : decode cLa_law 492 = .ok (.iconst 1, 1) := by decide +kernel
theorem dLa_law_493 : decode cLa_law 493 = .ok (.iadd, 1) := by decide +kernel
theorem dLa_law_494 : decode cLa_law 494 = .ok (.iaload, 1) := by decide +kernel
theorem dLa_law_495 : decode cLa_law 495 = .ok (.invokevirtual 72, 3) := by decide +kernel
theorem dLa_law_498 : decode cLa_law 498 = .ok (.aload_n 2, 1) := by decide +kernel
theorem dLa_law_499 : decode cLa_law 499 = .ok (.aload_n 0, 1) := by decide +kernel
theorem dLa_law_500 : decode cLa_law 500 = .ok (.iload_n 3, 1) := by decide +kernel
theorem dLa_law_501 : decode cLa_law 501 = .ok (.iconst 1, 1) := by decide +kernel
theorem dLa_law_502 : decode cLa_law 502 = .ok (.iadd, 1) := by decide +kernel
theorem dLa_law_503 : decode cLa_law 503 = .ok (.iaload, 1) := by decide +kernel
theorem dLa_law_504 : decode cLa_law 504 = .ok (.invokevirtual 75, 3) := by decide +kernel
theorem dLa_law_507 : decode cLa_law 507 = .ok (.if_icmp .eq 161, 3) := by decide +kernel
theorem dLa_law_510 : decode cLa_law 510 = .ok (.iconst 0, 1) := by decide +kernel
theorem dLa_law_511 : decode cLa_law 511 = .ok (.ireturn, 1) := by decide +kernel
theorem dLa_law_512 : decode cLa_law 512 = .ok (.aload_n 1, 1) := by decide +kernel
theorem dLa_law_513 : decode cLa_law 513 = .ok (.invokevirtual 76, 3) := by decide +kernel
theorem dLa_law_516 : decode cLa_law 516 = .ok (.aload_n 2, 1) := by decide +kernel
theorem dLa_law_517 : decode cLa_law 517 = .ok (.invokevirtual 80, 3) := by decide +kernel
theorem dLa_law_520 : decode cLa_law 520 = .ok (.if_icmp .eq 148, 3) := by decide +kernel
theorem dLa_law_523 : decode cLa_law 523 = .ok (.iconst 0, 1) := by decide +kernel
theorem dLa_law_524 : decode cLa_law 524 = .ok (.ireturn, 1) := by decide +kernel
theorem dLa_law_525 : decode cLa_law 525 = .ok (.aload_n 1, 1) := by decide +kernel
theorem dLa_law_526 : decode cLa_law 526 = .ok (.invokevirtual 81, 3) := by decide +kernel
theorem dLa_law_529 : decode cLa_law 529 = .ok (.aload_n 2, 1) := by decide +kernel
theorem dLa_law_530 : decode cLa_law 530 = .ok (.invokevirtual 84, 3) := by decide +kernel
theorem dLa_law_533 : decode cLa_law 533 = .ok (.if_icmp .eq 135, 3) := by decide +kernel
theorem dLa_law_536 : decode cLa_law 536 = .ok (.iconst 0, 1) := by decide +kernel
theorem dLa_law_537 : decode cLa_law 537 = .ok (.ireturn, 1) := by decide +kernel
theorem dLa_law_538 : decode cLa_law 538 = .ok (.aload_n 1, 1) := by decide +kernel
theorem dLa_law_539 : decode cLa_law 539 = .ok (.invokevirtual 85, 3) := by decide +kernel
theorem dLa_law_542 : decode cLa_law 542 = .ok (.aload_n 2, 1) := by decide +kernel
theorem dLa_law_543 : decode cLa_law 543 = .ok (.invokevirtual 88, 3) := by decide +kernel
theorem dLa_law_546 : decode cLa_law 546 = .ok (.if_icmp .eq 122, 3) := by decide +kernel
theorem dLa_law_549 : decode cLa_law 549 = .ok (.iconst 0, 1) := by decide +kernel
theorem dLa_law_550 : decode cLa_law 550 = .ok (.ireturn, 1) := by decide +kernel
theorem dLa_law_551 : decode cLa_law 551 = .ok (.aload_n 1, 1) := by decide +kernel
theorem dLa_law_552 : decode cLa_law 552 = .ok (.invokevirtual 89, 3) := by decide +kernel
theorem dLa_law_555 : decode cLa_law 555 = .ok (.aload_n 2, 1) := by decide +kernel
theorem dLa_law_556 : decode cLa_law 556 = .ok (.invokevirtual 93, 3) := by decide +kernel
theorem dLa_law_559 : decode cLa_law 559 = .ok (.lcmp, 1) := by decide +kernel
theorem dLa_law_560 : decode cLa_law 560 = .ok (.ifCond .eq 108, 3) := by decide +kernel
theorem dLa_law_563 : decode cLa_law 563 = .ok (.iconst 0, 1) := by decide +kernel
theorem dLa_law_564 : decode cLa_law 564 = .ok (.ireturn, 1) := by decide +kernel
theorem dLa_law_565 : decode cLa_law 565 = .ok (.aload_n 1, 1) := by decide +kernel
theorem dLa_law_566 : decode cLa_law 566 = .ok (.invokevirtual 94, 3) := by decide +kernel
theorem dLa_law_569 : decode cLa_law 569 = .ok (.aload_n 2, 1) := by decide +kernel
theorem dLa_law_570 : decode cLa_law 570 = .ok (.invokevirtual 97, 3) := by decide +kernel
theorem dLa_law_573 : decode cLa_law 573 = .ok (.lcmp, 1) := by decide +kernel
theorem dLa_law_574 : decode cLa_law 574 = .ok (.ifCond .eq 94, 3) := by decide +kernel
theorem dLa_law_577 : decode cLa_law 577 = .ok (.iconst 0, 1) := by decide +kernel
theorem dLa_law_578 : decode cLa_law 578 = .ok (.ireturn, 1) := by decide +kernel
theorem dLa_law_579 : decode cLa_law 579 = .ok (.aload_n 1, 1) := by decide +kernel
theorem dLa_law_580 : decode cLa_law 580 = .ok (.invokevirtual 98, 3) := by decide +kernel
theorem dLa_law_583 : decode cLa_law 583 = .ok (.aload_n 2, 1) := by decide +kernel
theorem dLa_law_584 : decode cLa_law 584 = .ok (.invokevirtual 101, 3) := by decide +kernel
theorem dLa_law_587 : decode cLa_law 587 = .ok (.if_icmp .eq 81, 3) := by decide +kernel
theorem dLa_law_590 : decode cLa_law 590 = .ok (.iconst 0, 1) := by decide +kernel
theorem dLa_law_591 : decode cLa_law 591 = .ok (.ireturn, 1) := by decide +kernel
theorem dLa_law_592 : decode cLa_law 592 = .ok (.aload_n 1, 1) := by decide +kernel
theorem dLa_law_593 : decode cLa_law 593 = .ok (.invokevirtual 102, 3) := by decide +kernel
theorem dLa_law_596 : decode cLa_law 596 = .ok (.aload_n 2, 1) := by decide +kernel
theorem dLa_law_597 : decode cLa_law 597 = .ok (.invokevirtual 105, 3) := by decide +kernel
theorem dLa_law_600 : decode cLa_law 600 = .ok (.if_icmp .eq 68, 3) := by decide +kernel
theorem dLa_law_603 : decode cLa_law 603 = .ok (.iconst 0, 1) := by decide +kernel
theorem dLa_law_604 : decode cLa_law 604 = .ok (.ireturn, 1) := by decide +kernel
theorem dLa_law_605 : decode cLa_law 605 = .ok (.aload_n 1, 1) := by decide +kernel
theorem dLa_law_606 : decode cLa_law 606 = .ok (.aload_n 0, 1) := by decide +kernel
theorem dLa_law_607 : decode cLa_law 607 = .ok (.iload_n 3, 1) := by decide +kernel
theorem dLa_law_608 : decode cLa_law 608 = .ok (.iconst 1, 1) := by decide +kernel
theorem dLa_law_609 : decode cLa_law 609 = .ok (.iadd, 1) := by decide +kernel
theorem dLa_law_610 : decode cLa_law 610 = .ok (.iaload, 1) := by decide +kernel
theorem dLa_law_611 : decode cLa_law 611 = .ok (.invokevirtual 106, 3) := by decide +kernel
theorem dLa_law_614 : decode cLa_law 614 = .ok (.aload_n 2, 1) := by decide +kernel
theorem dLa_law_615 : decode cLa_law 615 = .ok (.aload_n 0, 1) := by decide +kernel
theorem dLa_law_616 : decode cLa_law 616 = .ok (.iload_n 3, 1) := by decide +kernel
theorem dLa_law_617 : decode cLa_law 617 = .ok (.iconst 1, 1) := by decide +kernel
theorem dLa_law_618 : decode cLa_law 618 = .ok (.iadd, 1) := by decide +kernel
theorem dLa_law_619 : decode cLa_law 619 = .ok (.iaload, 1) := by decide +kernel
theorem dLa_law_620 : decode cLa_law 620 = .ok (.invokevirtual 110, 3) := by decide +kernel
theorem dLa_law_623 : decode cLa_law 623 = .ok (.lcmp, 1) := by decide +kernel
theorem dLa_law_624 : decode cLa_law 624 = .ok (.ifCond .eq 44, 3) := by decide +kernel
theorem dLa_law_627 : decode cLa_law 627 = .ok (.iconst 0, 1) := by decide +kernel
theorem dLa_law_628 : decode cLa_law 628 = .ok (.ireturn, 1) := by decide +kernel
theorem dLa_law_629 : decode cLa_law 629 = .ok (.aload_n 1, 1) := by decide +kernel
theorem dLa_law_630 : decode cLa_law 630 = .ok (.invokevirtual 111, 3) := by decide +kernel
theorem dLa_law_633 : decode cLa_law 633 = .ok (.aload_n 2, 1) := by decide +kernel
theorem dLa_law_634 : decode cLa_law 634 = .ok (.invokevirtual 114, 3) := by decide +kernel
theorem dLa_law_637 : decode cLa_law 637 = .ok (.if_icmp .eq 31, 3) := by decide +kernel
theorem dLa_law_640 : decode cLa_law 640 = .ok (.iconst 0, 1) := by decide +kernel
theorem dLa_law_641 : decode cLa_law 641 = .ok (.ireturn, 1) := by decide +kernel
theorem dLa_law_642 : decode cLa_law 642 = .ok (.aload_n 1, 1) := by decide +kernel
theorem dLa_law_643 : decode cLa_law 643 = .ok (.invokevirtual 115, 3) := by decide +kernel
theorem dLa_law_646 : decode cLa_law 646 = .ok (.aload_n 2, 1) := by decide +kernel
theorem dLa_law_647 : decode cLa_law 647 = .ok (.invokevirtual 118, 3) := by decide +kernel
theorem dLa_law_650 : decode cLa_law 650 = .ok (.if_icmp .eq 18, 3) := by decide +kernel
theorem dLa_law_653 : decode cLa_law 653 = .ok (.iconst 0, 1) := by decide +kernel
theorem dLa_law_654 : decode cLa_law 654 = .ok (.ireturn, 1) := by decide +kernel
theorem dLa_law_655 : decode cLa_law 655 = .ok (.aload_n 1, 1) := by decide +kernel
theorem dLa_law_656 : decode cLa_law 656 = .ok (.invokevirtual 119, 3) := by decide +kernel
theorem dLa_law_659 : decode cLa_law 659 = .ok (.aload_n 2, 1) := by decide +kernel
theorem dLa_law_660 : decode cLa_law 660 = .ok (.invokevirtual 122, 3) := by decide +kernel
theorem dLa_law_663 : decode cLa_law 663 = .ok (.if_icmp .eq 5, 3) := by decide +kernel
theorem dLa_law_666 : decode cLa_law 666 = .ok (.iconst 0, 1) := by decide +kernel
theorem dLa_law_667 : decode cLa_law 667 = .ok (.ireturn, 1) := by decide +kernel
theorem dLa_law_668 : decode cLa_law 668 = .ok (.iinc 3 4, 3) := by decide +kernel
theorem dLa_law_671 : decode cLa_law 671 = .ok (.goto (-653), 3) := by decide +kernel
theorem dLa_law_674 : decode cLa_law 674 = .ok (.iconst 1, 1) := by decide +kernel
theorem dLa_law_675 : decode cLa_law 675 = .ok (.ireturn, 1) := by decide +kernel
def b01 (x : Int32) : Int32 := if x = 0 then 0 else 1
theorem b01_0 {x : Int32} (h : x = 0) : b01 x = 0 := if_pos h
theorem b01_1 {x : Int32} (h : ¬ x = 0) : b01 x = 1 := if_neg h
theorem s_cmp (x : Int64) : lg_cmp x x = 0 := by
  unfold lg_cmp
  rw [if_neg (by rw [gt_iff_lt, Int64.lt_iff_toInt_lt]; omega), if_pos rfl]
def lawStep (xs : Nat → Int32) (n : Nat) (σ : Mem) : Option Mem :=
  if xs n &&& 31 = (0 : Int32) then bn (f_Be_number (xs (n + 1)) σ) fun (r1 : Int32) (σ1 : Mem) => bn (f_Mo_number (xs (n + 1)) σ1) fun (r2 : Int32) (σ2 : Mem) => if r1 = r2 then some σ2 else none
  else if xs n &&& 31 = (1 : Int32) then bn (f_Be_name (xs (n + 1)) σ) fun (r1 : Int32) (σ1 : Mem) => bn (f_Mo_name (xs (n + 1)) σ1) fun (r2 : Int32) (σ2 : Mem) => if r1 = r2 then some σ2 else none
  else if xs n &&& 31 = (2 : Int32) then bn (f_Be_sum (b01 (xs (n + 1))) σ) fun (r1 : Int32) (σ1 : Mem) => bn (f_Mo_sum (b01 (xs (n + 1))) σ1) fun (r2 : Int32) (σ2 : Mem) => if r1 = r2 then some σ2 else none
  else if xs n &&& 31 = (3 : Int32) then bn (f_Be_call (b01 (xs (n + 1))) σ) fun (r1 : Int32) (σ1 : Mem) => bn (f_Mo_call (b01 (xs (n + 1))) σ1) fun (r2 : Int32) (σ2 : Mem) => if r1 = r2 then some σ2 else none
  else if xs n &&& 31 = (4 : Int32) then bn (f_Be_function (xs (n + 1)) (((xs (n + 2)).toInt64 <<< ((32 : Int32).toInt64 &&& 63)) ||| ((xs (n + 3)).toInt64 &&& (4294967295 : Int64))) σ) fun (r1 : Int32) (σ1 : Mem) => bn (f_Mo_function (xs (n + 1)) (((xs (n + 2)).toInt64 <<< ((32 : Int32).toInt64 &&& 63)) ||| ((xs (n + 3)).toInt64 &&& (4294967295 : Int64))) σ1) fun (r2 : Int32) (σ2 : Mem) => if r1 = r2 then some σ2 else none
  else if xs n &&& 31 = (5 : Int32) then bn (f_Be_claim (((xs (n + 1)).toInt64 <<< ((32 : Int32).toInt64 &&& 63)) ||| ((xs (n + 2)).toInt64 &&& (4294967295 : Int64))) σ) fun (r1 : Int32) (σ1 : Mem) => bn (f_Mo_claim (((xs (n + 1)).toInt64 <<< ((32 : Int32).toInt64 &&& 63)) ||| ((xs (n + 2)).toInt64 &&& (4294967295 : Int64))) σ1) fun (r2 : Int32) (σ2 : Mem) => if r1 = r2 then some σ2 else none
  else if xs n &&& 31 = (6 : Int32) then bn (f_Be_remove σ) fun (r1 : Int32) (σ1 : Mem) => bn (f_Mo_remove σ1) fun (r2 : Int32) (σ2 : Mem) => if r1 = r2 then some σ2 else none
  else if xs n &&& 31 = (7 : Int32) then bn (f_Be_lift σ) fun (r1 : Int32) (σ1 : Mem) => bn (f_Mo_lift σ1) fun (r2 : Int32) (σ2 : Mem) => if r1 = r2 then some σ2 else none
  else if xs n &&& 31 = (8 : Int32) then bn (f_Be_undo σ) fun (r1 : Int32) (σ1 : Mem) => bn (f_Mo_undo σ1) fun (r2 : Int32) (σ2 : Mem) => if r1 = r2 then some σ2 else none
  else if xs n &&& 31 = (9 : Int32) then bn (f_Be_redo σ) fun (r1 : Int32) (σ1 : Mem) => bn (f_Mo_redo σ1) fun (r2 : Int32) (σ2 : Mem) => if r1 = r2 then some σ2 else none
  else if xs n &&& 31 = (10 : Int32) then bn (f_Be_up σ) fun (r1 : Int32) (σ1 : Mem) => bn (f_Mo_up σ1) fun (r2 : Int32) (σ2 : Mem) => if r1 = r2 then some σ2 else none
  else if xs n &&& 31 = (11 : Int32) then bn (f_Be_down (xs (n + 1)) σ) fun (r1 : Int32) (σ1 : Mem) => bn (f_Mo_down (xs (n + 1)) σ1) fun (r2 : Int32) (σ2 : Mem) => if r1 = r2 then some σ2 else none
  else if xs n &&& 31 = (12 : Int32) then bn (f_Be_hole σ) fun (r1 : Int32) (σ1 : Mem) => bn (f_Mo_hole σ1) fun (r2 : Int32) (σ2 : Mem) => if r1 = r2 then some σ2 else none
  else if xs n &&& 31 = (13 : Int32) then bn (f_Be_click (xs (n + 1)) σ) fun (r1 : Int32) (σ1 : Mem) => bn (f_Mo_click (xs (n + 1)) σ1) fun (r2 : Int32) (σ2 : Mem) => if r1 = r2 then some σ2 else none
  else if xs n &&& 31 = (14 : Int32) then bn (f_Be_column σ) fun (r1 : Int32) (σ1 : Mem) => bn (f_Mo_column σ1) fun (r2 : Int32) (σ2 : Mem) => if r1 = r2 then some σ2 else none
  else if xs n &&& 31 = (15 : Int32) then bn (f_Be_kind σ) fun (r1 : Int32) (σ1 : Mem) => bn (f_Mo_kind σ1) fun (r2 : Int32) (σ2 : Mem) => if r1 = r2 then some σ2 else none
  else if xs n &&& 31 = (16 : Int32) then bn (f_Be_mark σ) fun (r1 : Int32) (σ1 : Mem) => bn (f_Mo_mark σ1) fun (r2 : Int32) (σ2 : Mem) => if r1 = r2 then some σ2 else none
  else if xs n &&& 31 = (17 : Int32) then bn (f_Be_got σ) fun (r1 : Int64) (σ1 : Mem) => bn (f_Mo_got σ1) fun (r2 : Int64) (σ2 : Mem) => if r1 = r2 then some σ2 else none
  else if xs n &&& 31 = (18 : Int32) then bn (f_Be_expected σ) fun (r1 : Int64) (σ1 : Mem) => bn (f_Mo_expected σ1) fun (r2 : Int64) (σ2 : Mem) => if r1 = r2 then some σ2 else none
  else if xs n &&& 31 = (19 : Int32) then bn (f_Be_marks σ) fun (r1 : Int32) (σ1 : Mem) => bn (f_Mo_marks σ1) fun (r2 : Int32) (σ2 : Mem) => if r1 = r2 then some σ2 else none
  else if xs n &&& 31 = (20 : Int32) then bn (f_Be_terms σ) fun (r1 : Int32) (σ1 : Mem) => bn (f_Mo_terms σ1) fun (r2 : Int32) (σ2 : Mem) => if r1 = r2 then some σ2 else none
  else if xs n &&& 31 = (21 : Int32) then bn (f_Be_text (xs (n + 1)) σ) fun (r1 : Int64) (σ1 : Mem) => bn (f_Mo_text (xs (n + 1)) σ1) fun (r2 : Int64) (σ2 : Mem) => if r1 = r2 then some σ2 else none
  else if xs n &&& 31 = (22 : Int32) then bn (f_Be_run σ) fun (r1 : Int32) (σ1 : Mem) => bn (f_Mo_run σ1) fun (r2 : Int32) (σ2 : Mem) => if r1 = r2 then some σ2 else none
  else if xs n &&& 31 = (23 : Int32) then bn (f_Be_result σ) fun (r1 : Int32) (σ1 : Mem) => bn (f_Mo_result σ1) fun (r2 : Int32) (σ2 : Mem) => if r1 = r2 then some σ2 else none
  else if xs n &&& 31 = (24 : Int32) then bn (f_Be_units σ) fun (r1 : Int32) (σ1 : Mem) => bn (f_Mo_units σ1) fun (r2 : Int32) (σ2 : Mem) => if r1 = r2 then some σ2 else none
  else some σ
