section LW
variable {p : Program} {l : Launch} {e : Env} {R : Room} {s : State} {m : MethodId} {args : Array Value} {below : List Frame} {meth : Method} {c : Code} {H : Heap} {locs : List Loc} {cells slots : Nat} {Q : State → Prop}
variable {cc : ByteArray} {pc nL : Nat} {ls : Array Slot} {rest : List Value} {own : String} {g : Gw} {H0 : Heap} {A : Nat → Prop} {b L : Nat} {xs : Nat → Int32}
theorem s_ld {j : Nat} (hx : p.tables.exec = Jvm.exec) (hb : c.code = cc) (hX : va_X b L xs s H0) (hbl : b < H0.size) (hbA : ¬ A b) (hS : va_S A H0 H locs) (hj : j < L) (hL : L < 2 ^ 31) {i : Int32} (hi : i = nI j) (hd : decode cc pc = .ok (.iaload, 1))
    (kk : W p l e R s m args below meth c H locs cells slots Q (F0 m (pc + 1) ls (.int (xs j) :: rest))) : W p l e R s m args below meth c H locs cells slots Q (F0 m pc ls (.int i :: .ref b :: rest)) := by
  subst hi
  refine va_sld hx hb hX hbl hbA hS (vp_in_nI hj hL) hd ?_
  rw [nI_clamp (by omega)]
  exact kk
end LW
set_option maxHeartbeats 4000000 in
set_option maxRecDepth 100000 in
/-- one turn of the law's loop, from the switch on -/
theorem s_turn {p : Program} {l : Launch} {e : Env} {R : Room} {s : State} {m : MethodId} {args : Array Value} {below : List Frame} {meth : Method} {c : Code} {cells slots : Nat} {Q : State → Prop} {g : Gw} {H0 : Heap} {b L n : Nat} {xs : Nat → Int32} (hg : wInj g) (cx : Cx p s m args meth c cLa_law 4 "TermBenchLaw" g) (hRk : Rk R 1000 cells slots) (hX : va_X b L xs s H0) (hbl : b < H0.size) (hbA : ¬ wA g b) (hn : n + 4 ≤ L) (hL : L ≤ 2048) {σ σ' : Mem} (h : lawStep xs n σ = some σ')
    (K : ∀ (H : Heap) (locs : List Loc) (ls : Array Slot), lv_has ls 4 [(0, .ref b), (1, .ref (ad g 0)), (2, .ref (ad g 15)), (3, .int (nI (n + 4)))] → Wd g σ' H → va_S (wA g) H0 H locs → W p l e R s m args below meth c H locs cells slots Q (F0 m 18 ls []))
    {H : Heap} {locs : List Loc} {ls : Array Slot} (hl : lv_has ls 4 [(0, .ref b), (1, .ref (ad g 0)), (2, .ref (ad g 15)), (3, .int (nI n))]) (hP : Wd g σ H) (hS : va_S (wA g) H0 H locs) : W p l e R s m args below meth c H locs cells slots Q (F0 m 26 ls []) := by
  have hx := cx.1
  have hb := cx.2.1
  have hown := cx.2.2.2.1
  have hts := cx.2.2.2.2.1
  have J668 : ∀ (σ2 : Mem), some σ2 = some σ' → ∀ (H : Heap) (locs : List Loc), Wd g σ2 H → va_S (wA g) H0 H locs → W p l e R s m args below meth c H locs cells slots Q (F0 m 668 ls []) := by
    intro σ2 h H locs hP hS
    cases h
    refine lv_iinc (lv' := [(3, .int (nI (n + 4))), (0, .ref b), (1, .ref (ad g 0)), (2, .ref (ad g 15))]) hx hb dLa_law_668 hl (k := 3) rfl (q_inc (nI_add n 4).symm (by decide)) (Nat.le_of_ble_eq_true rfl) rfl (fun ls hl => ?_)
    refine lv_goto (tgt := 18) hx hb dLa_law_671 (by decide) ?_
    exact K H locs ls (lv_sub hl [1, 2, 3, 0] rfl) hP hS
  refine lv_aload_n hx hb dLa_law_26 rfl (lv_at hl 0 rfl) ?_
  refine lv_iload_n hx hb dLa_law_27 rfl (lv_at hl 3 rfl) ?_
  refine s_ld (j := n) hx hb hX hbl hbA hS (by omega) (by omega) rfl dLa_law_28 ?_
  refine lv_bipush (v := 31) hx hb dLa_law_29 (by decide) ?_
  refine lv_iand hx hb dLa_law_31 ?_
  unfold lawStep at h
  rcases Decidable.em (xs n &&& 31 = (0 : Int32)) with hc0 | hc0
  · replace h := if_t h hc0
    refine lv_tableIn (tgt := 148) hx hb dLa_law_32 (by rw [hc0]; decide) (by rw [hc0]; decide) (by rw [hc0]; rfl) (by decide) ?_
    refine lv_aload_n hx hb dLa_law_148 rfl (lv_at hl 1 rfl) ?_
    refine lv_aload_n hx hb dLa_law_149 rfl (lv_at hl 0 rfl) ?_
    refine lv_iload_n hx hb dLa_law_150 rfl (lv_at hl 3 rfl) ?_
    refine lv_iconst (v := 1) hx hb dLa_law_151 (by decide) ?_
    refine lv_iadd hx hb dLa_law_152 ?_
    refine s_ld (j := n + 1) hx hb hX hbl hbA hS (by omega) (by omega) (nI_add n 1) dLa_law_153 ?_
    obtain ⟨r1, σ1, h1, h⟩ := bn_some h
    refine q_cVi (rest := []) (As := [.int (xs (n + 1))]) cx hP hS hRk (c_Be_number l g hg h1) Y_Be_number V_Be_number t_170 (by decide) (by decide) (e_0 g _ _) rfl rfl hl.1 rfl (Nat.le_of_ble_eq_true rfl) dLa_law_154 (fun H locs hP hS => ?_)
    refine lv_aload_n hx hb dLa_law_157 rfl (lv_at hl 2 rfl) ?_
    refine lv_aload_n hx hb dLa_law_158 rfl (lv_at hl 0 rfl) ?_
    refine lv_iload_n hx hb dLa_law_159 rfl (lv_at hl 3 rfl) ?_
    refine lv_iconst (v := 1) hx hb dLa_law_160 (by decide) ?_
    refine lv_iadd hx hb dLa_law_161 ?_
    refine s_ld (j := n + 1) hx hb hX hbl hbA hS (by omega) (by omega) (nI_add n 1) dLa_law_162 ?_
    obtain ⟨r2, σ2, h2, h⟩ := bn_some h
    refine q_cVi (rest := [.int r1]) (As := [.int (xs (n + 1))]) cx hP hS hRk (c_Mo_number l g hg h2) Y_Mo_number V_Mo_number t_673 (by decide) (by decide) (e_15 g _ _) rfl rfl hl.1 rfl (Nat.le_of_ble_eq_true rfl) dLa_law_163 (fun H locs hP hS => ?_)
    by_cases hr12 : r1 = r2
    · replace h := if_t h hr12
      refine lv_icmp_eq (tgt := 668) hx hb dLa_law_166 (by decide) (fun _ => ?_) (fun hc => absurd hr12 hc)
      exact J668 σ2 h H locs hP hS
    · cases if_f h hr12
  replace h := if_f h hc0
  rcases Decidable.em (xs n &&& 31 = (1 : Int32)) with hc1 | hc1
  · replace h := if_t h hc1
    refine lv_tableIn (tgt := 171) hx hb dLa_law_32 (by rw [hc1]; decide) (by rw [hc1]; decide) (by rw [hc1]; rfl) (by decide) ?_
    refine lv_aload_n hx hb dLa_law_171 rfl (lv_at hl 1 rfl) ?_
    refine lv_aload_n hx hb dLa_law_172 rfl (lv_at hl 0 rfl) ?_
    refine lv_iload_n hx hb dLa_law_173 rfl (lv_at hl 3 rfl) ?_
    refine lv_iconst (v := 1) hx hb dLa_law_174 (by decide) ?_
    refine lv_iadd hx hb dLa_law_175 ?_
    refine s_ld (j := n + 1) hx hb hX hbl hbA hS (by omega) (by omega) (nI_add n 1) dLa_law_176 ?_
    obtain ⟨r1, σ1, h1, h⟩ := bn_some h
    refine q_cVi (rest := []) (As := [.int (xs (n + 1))]) cx hP hS hRk (c_Be_name l g hg h1) Y_Be_name V_Be_name t_209 (by decide) (by decide) (e_0 g _ _) rfl rfl hl.1 rfl (Nat.le_of_ble_eq_true rfl) dLa_law_177 (fun H locs hP hS => ?_)
    refine lv_aload_n hx hb dLa_law_180 rfl (lv_at hl 2 rfl) ?_
    refine lv_aload_n hx hb dLa_law_181 rfl (lv_at hl 0 rfl) ?_
    refine lv_iload_n hx hb dLa_law_182 rfl (lv_at hl 3 rfl) ?_
    refine lv_iconst (v := 1) hx hb dLa_law_183 (by decide) ?_
    refine lv_iadd hx hb dLa_law_184 ?_
    refine s_ld (j := n + 1) hx hb hX hbl hbA hS (by omega) (by omega) (nI_add n 1) dLa_law_185 ?_
    obtain ⟨r2, σ2, h2, h⟩ := bn_some h
    refine q_cVi (rest := [.int r1]) (As := [.int (xs (n + 1))]) cx hP hS hRk (c_Mo_name l g hg h2) Y_Mo_name V_Mo_name t_700 (by decide) (by decide) (e_15 g _ _) rfl rfl hl.1 rfl (Nat.le_of_ble_eq_true rfl) dLa_law_186 (fun H locs hP hS => ?_)
    by_cases hr12 : r1 = r2
    · replace h := if_t h hr12
      refine lv_icmp_eq (tgt := 668) hx hb dLa_law_189 (by decide) (fun _ => ?_) (fun hc => absurd hr12 hc)
      exact J668 σ2 h H locs hP hS
    · cases if_f h hr12
  replace h := if_f h hc1
  rcases Decidable.em (xs n &&& 31 = (2 : Int32)) with hc2 | hc2
  · replace h := if_t h hc2
    refine lv_tableIn (tgt := 194) hx hb dLa_law_32 (by rw [hc2]; decide) (by rw [hc2]; decide) (by rw [hc2]; rfl) (by decide) ?_
    refine lv_aload_n hx hb dLa_law_194 rfl (lv_at hl 1 rfl) ?_
    refine lv_aload_n hx hb dLa_law_195 rfl (lv_at hl 0 rfl) ?_
    refine lv_iload_n hx hb dLa_law_196 rfl (lv_at hl 3 rfl) ?_
    refine lv_iconst (v := 1) hx hb dLa_law_197 (by decide) ?_
    refine lv_iadd hx hb dLa_law_198 ?_
    refine s_ld (j := n + 1) hx hb hX hbl hbA hS (by omega) (by omega) (nI_add n 1) dLa_law_199 ?_
    suffices J208 : W p l e R s m args below meth c H locs cells slots Q (F0 m 208 ls [.int (b01 (xs (n + 1))), .ref (ad g 0)]) by
      refine lv_if_eq (tgt := 207) hx hb dLa_law_200 (by decide) (fun hc => ?_) (fun hc => ?_)
      · refine lv_iconst (v := 0) hx hb dLa_law_207 (by decide) ?_
        rw [b01_0 hc] at J208
        exact J208
      · refine lv_iconst (v := 1) hx hb dLa_law_203 (by decide) ?_
        refine lv_goto (tgt := 208) hx hb dLa_law_204 (by decide) ?_
        rw [b01_1 hc] at J208
        exact J208
    obtain ⟨r1, σ1, h1, h⟩ := bn_some h
    refine q_cVi (rest := []) (As := [.int (b01 (xs (n + 1)))]) cx hP hS hRk (c_Be_sum l g hg h1) Y_Be_sum V_Be_sum t_216 (by decide) (by decide) (e_0 g _ _) rfl rfl hl.1 rfl (Nat.le_of_ble_eq_true rfl) dLa_law_208 (fun H locs hP hS => ?_)
    refine lv_aload_n hx hb dLa_law_211 rfl (lv_at hl 2 rfl) ?_
    refine lv_aload_n hx hb dLa_law_212 rfl (lv_at hl 0 rfl) ?_
    refine lv_iload_n hx hb dLa_law_213 rfl (lv_at hl 3 rfl) ?_
    refine lv_iconst (v := 1) hx hb dLa_law_214 (by decide) ?_
    refine lv_iadd hx hb dLa_law_215 ?_
    refine s_ld (j := n + 1) hx hb hX hbl hbA hS (by omega) (by omega) (nI_add n 1) dLa_law_216 ?_
    suffices J225 : W p l e R s m args below meth c H locs cells slots Q (F0 m 225 ls [.int (b01 (xs (n + 1))), .ref (ad g 15), .int r1]) by
      refine lv_if_eq (tgt := 224) hx hb dLa_law_217 (by decide) (fun hc => ?_) (fun hc => ?_)
      · refine lv_iconst (v := 0) hx hb dLa_law_224 (by decide) ?_
        rw [b01_0 hc] at J225
        exact J225
      · refine lv_iconst (v := 1) hx hb dLa_law_220 (by decide) ?_
        refine lv_goto (tgt := 225) hx hb dLa_law_221 (by decide) ?_
        rw [b01_1 hc] at J225
        exact J225
    obtain ⟨r2, σ2, h2, h⟩ := bn_some h
    refine q_cVi (rest := [.int r1]) (As := [.int (b01 (xs (n + 1)))]) cx hP hS hRk (c_Mo_sum l g hg h2) Y_Mo_sum V_Mo_sum t_704 (by decide) (by decide) (e_15 g _ _) rfl rfl hl.1 rfl (Nat.le_of_ble_eq_true rfl) dLa_law_225 (fun H locs hP hS => ?_)
    by_cases hr12 : r1 = r2
    · replace h := if_t h hr12
      refine lv_icmp_eq (tgt := 668) hx hb dLa_law_228 (by decide) (fun _ => ?_) (fun hc => absurd hr12 hc)
      exact J668 σ2 h H locs hP hS
    · cases if_f h hr12
  replace h := if_f h hc2
  rcases Decidable.em (xs n &&& 31 = (3 : Int32)) with hc3 | hc3
  · replace h := if_t h hc3
    refine lv_tableIn (tgt := 233) hx hb dLa_law_32 (by rw [hc3]; decide) (by rw [hc3]; decide) (by rw [hc3]; rfl) (by decide) ?_
    refine lv_aload_n hx hb dLa_law_233 rfl (lv_at hl 1 rfl) ?_
    refine lv_aload_n hx hb dLa_law_234 rfl (lv_at hl 0 rfl) ?_
    refine lv_iload_n hx hb dLa_law_235 rfl (lv_at hl 3 rfl) ?_
    refine lv_iconst (v := 1) hx hb dLa_law_236 (by decide) ?_
    refine lv_iadd hx hb dLa_law_237 ?_
    refine s_ld (j := n + 1) hx hb hX hbl hbA hS (by omega) (by omega) (nI_add n 1) dLa_law_238 ?_
    suffices J247 : W p l e R s m args below meth c H locs cells slots Q (F0 m 247 ls [.int (b01 (xs (n + 1))), .ref (ad g 0)]) by
      refine lv_if_eq (tgt := 246) hx hb dLa_law_239 (by decide) (fun hc => ?_) (fun hc => ?_)
      · refine lv_iconst (v := 0) hx hb dLa_law_246 (by decide) ?_
        rw [b01_0 hc] at J247
        exact J247
      · refine lv_iconst (v := 1) hx hb dLa_law_242 (by decide) ?_
        refine lv_goto (tgt := 247) hx hb dLa_law_243 (by decide) ?_
        rw [b01_1 hc] at J247
        exact J247
    obtain ⟨r1, σ1, h1, h⟩ := bn_some h
    refine q_cVi (rest := []) (As := [.int (b01 (xs (n + 1)))]) cx hP hS hRk (c_Be_call l g hg h1) Y_Be_call V_Be_call t_251 (by decide) (by decide) (e_0 g _ _) rfl rfl hl.1 rfl (Nat.le_of_ble_eq_true rfl) dLa_law_247 (fun H locs hP hS => ?_)
    refine lv_aload_n hx hb dLa_law_250 rfl (lv_at hl 2 rfl) ?_
    refine lv_aload_n hx hb dLa_law_251 rfl (lv_at hl 0 rfl) ?_
    refine lv_iload_n hx hb dLa_law_252 rfl (lv_at hl 3 rfl) ?_
    refine lv_iconst (v := 1) hx hb dLa_law_253 (by decide) ?_
    refine lv_iadd hx hb dLa_law_254 ?_
    refine s_ld (j := n + 1) hx hb hX hbl hbA hS (by omega) (by omega) (nI_add n 1) dLa_law_255 ?_
    suffices J264 : W p l e R s m args below meth c H locs cells slots Q (F0 m 264 ls [.int (b01 (xs (n + 1))), .ref (ad g 15), .int r1]) by
      refine lv_if_eq (tgt := 263) hx hb dLa_law_256 (by decide) (fun hc => ?_) (fun hc => ?_)
      · refine lv_iconst (v := 0) hx hb dLa_law_263 (by decide) ?_
        rw [b01_0 hc] at J264
        exact J264
      · refine lv_iconst (v := 1) hx hb dLa_law_259 (by decide) ?_
        refine lv_goto (tgt := 264) hx hb dLa_law_260 (by decide) ?_
        rw [b01_1 hc] at J264
        exact J264
    obtain ⟨r2, σ2, h2, h⟩ := bn_some h
    refine q_cVi (rest := [.int r1]) (As := [.int (b01 (xs (n + 1)))]) cx hP hS hRk (c_Mo_call l g hg h2) Y_Mo_call V_Mo_call t_720 (by decide) (by decide) (e_15 g _ _) rfl rfl hl.1 rfl (Nat.le_of_ble_eq_true rfl) dLa_law_264 (fun H locs hP hS => ?_)
    by_cases hr12 : r1 = r2
    · replace h := if_t h hr12
      refine lv_icmp_eq (tgt := 668) hx hb dLa_law_267 (by decide) (fun _ => ?_) (fun hc => absurd hr12 hc)
      exact J668 σ2 h H locs hP hS
    · cases if_f h hr12
  replace h := if_f h hc3
  rcases Decidable.em (xs n &&& 31 = (4 : Int32)) with hc4 | hc4
  · replace h := if_t h hc4
    refine lv_tableIn (tgt := 272) hx hb dLa_law_32 (by rw [hc4]; decide) (by rw [hc4]; decide) (by rw [hc4]; rfl) (by decide) ?_
    refine lv_aload_n hx hb dLa_law_272 rfl (lv_at hl 1 rfl) ?_
    refine lv_aload_n hx hb dLa_law_273 rfl (lv_at hl 0 rfl) ?_
    refine lv_iload_n hx hb dLa_law_274 rfl (lv_at hl 3 rfl) ?_
    refine lv_iconst (v := 1) hx hb dLa_law_275 (by decide) ?_
    refine lv_iadd hx hb dLa_law_276 ?_
    refine s_ld (j := n + 1) hx hb hX hbl hbA hS (by omega) (by omega) (nI_add n 1) dLa_law_277 ?_
    refine lv_aload_n hx hb dLa_law_278 rfl (lv_at hl 0 rfl) ?_
    refine lv_iload_n hx hb dLa_law_279 rfl (lv_at hl 3 rfl) ?_
    refine lv_iconst (v := 2) hx hb dLa_law_280 (by decide) ?_
    refine lv_iadd hx hb dLa_law_281 ?_
    refine s_ld (j := n + 2) hx hb hX hbl hbA hS (by omega) (by omega) (nI_add n 2) dLa_law_282 ?_
    refine lv_i2l hx hb dLa_law_283 rfl ?_
    refine lv_bipush (v := 32) hx hb dLa_law_284 (by decide) ?_
    refine lv_lshl hx hb dLa_law_286 rfl ?_
    refine lv_aload_n hx hb dLa_law_287 rfl (lv_at hl 0 rfl) ?_
    refine lv_iload_n hx hb dLa_law_288 rfl (lv_at hl 3 rfl) ?_
    refine lv_iconst (v := 3) hx hb dLa_law_289 (by decide) ?_
    refine lv_iadd hx hb dLa_law_290 ?_
    refine s_ld (j := n + 3) hx hb hX hbl hbA hS (by omega) (by omega) (nI_add n 3) dLa_law_291 ?_
    refine lv_i2l hx hb dLa_law_292 rfl ?_
    refine lv_ldc2 (own := "TermBenchLaw") (index := 31) (v := 4294967295) hx hb hown (hts _ t_917) dLa_law_293 ?_
    refine lv_land hx hb dLa_law_296 ?_
    refine lv_lor hx hb dLa_law_297 ?_
    obtain ⟨r1, σ1, h1, h⟩ := bn_some h
    refine q_cVi (rest := []) (As := [.int (xs (n + 1)), .long (((xs (n + 2)).toInt64 <<< ((32 : Int32).toInt64 &&& 63)) ||| ((xs (n + 3)).toInt64 &&& (4294967295 : Int64)))]) cx hP hS hRk (c_Be_function l g hg h1) Y_Be_function V_Be_function t_255 (by decide) (by decide) (e_0 g _ _) rfl rfl hl.1 rfl (Nat.le_of_ble_eq_true rfl) dLa_law_298 (fun H locs hP hS => ?_)
    refine lv_aload_n hx hb dLa_law_301 rfl (lv_at hl 2 rfl) ?_
    refine lv_aload_n hx hb dLa_law_302 rfl (lv_at hl 0 rfl) ?_
    refine lv_iload_n hx hb dLa_law_303 rfl (lv_at hl 3 rfl) ?_
    refine lv_iconst (v := 1) hx hb dLa_law_304 (by decide) ?_
    refine lv_iadd hx hb dLa_law_305 ?_
    refine s_ld (j := n + 1) hx hb hX hbl hbA hS (by omega) (by omega) (nI_add n 1) dLa_law_306 ?_
    refine lv_aload_n hx hb dLa_law_307 rfl (lv_at hl 0 rfl) ?_
    refine lv_iload_n hx hb dLa_law_308 rfl (lv_at hl 3 rfl) ?_
    refine lv_iconst (v := 2) hx hb dLa_law_309 (by decide) ?_
    refine lv_iadd hx hb dLa_law_310 ?_
    refine s_ld (j := n + 2) hx hb hX hbl hbA hS (by omega) (by omega) (nI_add n 2) dLa_law_311 ?_
    refine lv_i2l hx hb dLa_law_312 rfl ?_
    refine lv_bipush (v := 32) hx hb dLa_law_313 (by decide) ?_
    refine lv_lshl hx hb dLa_law_315 rfl ?_
    refine lv_aload_n hx hb dLa_law_316 rfl (lv_at hl 0 rfl) ?_
    refine lv_iload_n hx hb dLa_law_317 rfl (lv_at hl 3 rfl) ?_
    refine lv_iconst (v := 3) hx hb dLa_law_318 (by decide) ?_
    refine lv_iadd hx hb dLa_law_319 ?_
    refine s_ld (j := n + 3) hx hb hX hbl hbA hS (by omega) (by omega) (nI_add n 3) dLa_law_320 ?_
    refine lv_i2l hx hb dLa_law_321 rfl ?_
    refine lv_ldc2 (own := "TermBenchLaw") (index := 31) (v := 4294967295) hx hb hown (hts _ t_917) dLa_law_322 ?_
    refine lv_land hx hb dLa_law_325 ?_
    refine lv_lor hx hb dLa_law_326 ?_
    obtain ⟨r2, σ2, h2, h⟩ := bn_some h
    refine q_cVi (rest := [.int r1]) (As := [.int (xs (n + 1)), .long (((xs (n + 2)).toInt64 <<< ((32 : Int32).toInt64 &&& 63)) ||| ((xs (n + 3)).toInt64 &&& (4294967295 : Int64)))]) cx hP hS hRk (c_Mo_function l g hg h2) Y_Mo_function V_Mo_function t_724 (by decide) (by decide) (e_15 g _ _) rfl rfl hl.1 rfl (Nat.le_of_ble_eq_true rfl) dLa_law_327 (fun H locs hP hS => ?_)
    by_cases hr12 : r1 = r2
    · replace h := if_t h hr12
      refine lv_icmp_eq (tgt := 668) hx hb dLa_law_330 (by decide) (fun _ => ?_) (fun hc => absurd hr12 hc)
      exact J668 σ2 h H locs hP hS
    · cases if_f h hr12
  replace h := if_f h hc4
  rcases Decidable.em (xs n &&& 31 = (5 : Int32)) with hc5 | hc5
  · replace h := if_t h hc5
    refine lv_tableIn (tgt := 335) hx hb dLa_law_32 (by rw [hc5]; decide) (by rw [hc5]; decide) (by rw [hc5]; rfl) (by decide) ?_
    refine lv_aload_n hx hb dLa_law_335 rfl (lv_at hl 1 rfl) ?_
    refine lv_aload_n hx hb dLa_law_336 rfl (lv_at hl 0 rfl) ?_
    refine lv_iload_n hx hb dLa_law_337 rfl (lv_at hl 3 rfl) ?_
    refine lv_iconst (v := 1) hx hb dLa_law_338 (by decide) ?_
    refine lv_iadd hx hb dLa_law_339 ?_
    refine s_ld (j := n + 1) hx hb hX hbl hbA hS (by omega) (by omega) (nI_add n 1) dLa_law_340 ?_
    refine lv_i2l hx hb dLa_law_341 rfl ?_
    refine lv_bipush (v := 32) hx hb dLa_law_342 (by decide) ?_
    refine lv_lshl hx hb dLa_law_344 rfl ?_
    refine lv_aload_n hx hb dLa_law_345 rfl (lv_at hl 0 rfl) ?_
    refine lv_iload_n hx hb dLa_law_346 rfl (lv_at hl 3 rfl) ?_
    refine lv_iconst (v := 2) hx hb dLa_law_347 (by decide) ?_
    refine lv_iadd hx hb dLa_law_348 ?_
    refine s_ld (j := n + 2) hx hb hX hbl hbA hS (by omega) (by omega) (nI_add n 2) dLa_law_349 ?_
    refine lv_i2l hx hb dLa_law_350 rfl ?_
    refine lv_ldc2 (own := "TermBenchLaw") (index := 31) (v := 4294967295) hx hb hown (hts _ t_917) dLa_law_351 ?_
    refine lv_land hx hb dLa_law_354 ?_
    refine lv_lor hx hb dLa_law_355 ?_
    obtain ⟨r1, σ1, h1, h⟩ := bn_some h
    refine q_cVi (rest := []) (As := [.long (((xs (n + 1)).toInt64 <<< ((32 : Int32).toInt64 &&& 63)) ||| ((xs (n + 2)).toInt64 &&& (4294967295 : Int64)))]) cx hP hS hRk (c_Be_claim l g hg h1) Y_Be_claim V_Be_claim t_270 (by decide) (by decide) (e_0 g _ _) rfl rfl hl.1 rfl (Nat.le_of_ble_eq_true rfl) dLa_law_356 (fun H locs hP hS => ?_)
    refine lv_aload_n hx hb dLa_law_359 rfl (lv_at hl 2 rfl) ?_
    refine lv_aload_n hx hb dLa_law_360 rfl (lv_at hl 0 rfl) ?_
    refine lv_iload_n hx hb dLa_law_361 rfl (lv_at hl 3 rfl) ?_
    refine lv_iconst (v := 1) hx hb dLa_law_362 (by decide) ?_
    refine lv_iadd hx hb dLa_law_363 ?_
    refine s_ld (j := n + 1) hx hb hX hbl hbA hS (by omega) (by omega) (nI_add n 1) dLa_law_364 ?_
    refine lv_i2l hx hb dLa_law_365 rfl ?_
    refine lv_bipush (v := 32) hx hb dLa_law_366 (by decide) ?_
    refine lv_lshl hx hb dLa_law_368 rfl ?_
    refine lv_aload_n hx hb dLa_law_369 rfl (lv_at hl 0 rfl) ?_
    refine lv_iload_n hx hb dLa_law_370 rfl (lv_at hl 3 rfl) ?_
    refine lv_iconst (v := 2) hx hb dLa_law_371 (by decide) ?_
    refine lv_iadd hx hb dLa_law_372 ?_
    refine s_ld (j := n + 2) hx hb hX hbl hbA hS (by omega) (by omega) (nI_add n 2) dLa_law_373 ?_
    refine lv_i2l hx hb dLa_law_374 rfl ?_
    refine lv_ldc2 (own := "TermBenchLaw") (index := 31) (v := 4294967295) hx hb hown (hts _ t_917) dLa_law_375 ?_
    refine lv_land hx hb dLa_law_378 ?_
    refine lv_lor hx hb dLa_law_379 ?_
    obtain ⟨r2, σ2, h2, h⟩ := bn_some h
    refine q_cVi (rest := [.int r1]) (As := [.long (((xs (n + 1)).toInt64 <<< ((32 : Int32).toInt64 &&& 63)) ||| ((xs (n + 2)).toInt64 &&& (4294967295 : Int64)))]) cx hP hS hRk (c_Mo_claim l g hg h2) Y_Mo_claim V_Mo_claim t_738 (by decide) (by decide) (e_15 g _ _) rfl rfl hl.1 rfl (Nat.le_of_ble_eq_true rfl) dLa_law_380 (fun H locs hP hS => ?_)
    by_cases hr12 : r1 = r2
    · replace h := if_t h hr12
      refine lv_icmp_eq (tgt := 668) hx hb dLa_law_383 (by decide) (fun _ => ?_) (fun hc => absurd hr12 hc)
      exact J668 σ2 h H locs hP hS
    · cases if_f h hr12
  replace h := if_f h hc5
  rcases Decidable.em (xs n &&& 31 = (6 : Int32)) with hc6 | hc6
  · replace h := if_t h hc6
    refine lv_tableIn (tgt := 388) hx hb dLa_law_32 (by rw [hc6]; decide) (by rw [hc6]; decide) (by rw [hc6]; rfl) (by decide) ?_
    refine lv_aload_n hx hb dLa_law_388 rfl (lv_at hl 1 rfl) ?_
    obtain ⟨r1, σ1, h1, h⟩ := bn_some h
    refine q_cVi (rest := []) (As := []) cx hP hS hRk (c_Be_remove l g hg h1) Y_Be_remove V_Be_remove t_274 (by decide) (by decide) (e_0 g _ _) rfl rfl hl.1 rfl (Nat.le_of_ble_eq_true rfl) dLa_law_389 (fun H locs hP hS => ?_)
    refine lv_aload_n hx hb dLa_law_392 rfl (lv_at hl 2 rfl) ?_
    obtain ⟨r2, σ2, h2, h⟩ := bn_some h
    refine q_cVi (rest := [.int r1]) (As := []) cx hP hS hRk (c_Mo_remove l g hg h2) Y_Mo_remove V_Mo_remove t_742 (by decide) (by decide) (e_15 g _ _) rfl rfl hl.1 rfl (Nat.le_of_ble_eq_true rfl) dLa_law_393 (fun H locs hP hS => ?_)
    by_cases hr12 : r1 = r2
    · replace h := if_t h hr12
      refine lv_icmp_eq (tgt := 668) hx hb dLa_law_396 (by decide) (fun _ => ?_) (fun hc => absurd hr12 hc)
      exact J668 σ2 h H locs hP hS
    · cases if_f h hr12
  replace h := if_f h hc6
  rcases Decidable.em (xs n &&& 31 = (7 : Int32)) with hc7 | hc7
  · replace h := if_t h hc7
    refine lv_tableIn (tgt := 401) hx hb dLa_law_32 (by rw [hc7]; decide) (by rw [hc7]; decide) (by rw [hc7]; rfl) (by decide) ?_
    refine lv_aload_n hx hb dLa_law_401 rfl (lv_at hl 1 rfl) ?_
    obtain ⟨r1, σ1, h1, h⟩ := bn_some h
    refine q_cVi (rest := []) (As := []) cx hP hS hRk (c_Be_lift l g hg h1) Y_Be_lift V_Be_lift t_282 (by decide) (by decide) (e_0 g _ _) rfl rfl hl.1 rfl (Nat.le_of_ble_eq_true rfl) dLa_law_402 (fun H locs hP hS => ?_)
    refine lv_aload_n hx hb dLa_law_405 rfl (lv_at hl 2 rfl) ?_
    obtain ⟨r2, σ2, h2, h⟩ := bn_some h
    refine q_cVi (rest := [.int r1]) (As := []) cx hP hS hRk (c_Mo_lift l g hg h2) Y_Mo_lift V_Mo_lift t_750 (by decide) (by decide) (e_15 g _ _) rfl rfl hl.1 rfl (Nat.le_of_ble_eq_true rfl) dLa_law_406 (fun H locs hP hS => ?_)
    by_cases hr12 : r1 = r2
    · replace h := if_t h hr12
      refine lv_icmp_eq (tgt := 668) hx hb dLa_law_409 (by decide) (fun _ => ?_) (fun hc => absurd hr12 hc)
      exact J668 σ2 h H locs hP hS
    · cases if_f h hr12
  replace h := if_f h hc7
  rcases Decidable.em (xs n &&& 31 = (8 : Int32)) with hc8 | hc8
  · replace h := if_t h hc8
    refine lv_tableIn (tgt := 414) hx hb dLa_law_32 (by rw [hc8]; decide) (by rw [hc8]; decide) (by rw [hc8]; rfl) (by decide) ?_
    refine lv_aload_n hx hb dLa_law_414 rfl (lv_at hl 1 rfl) ?_
    obtain ⟨r1, σ1, h1, h⟩ := bn_some h
    refine q_cVi (rest := []) (As := []) cx hP hS hRk (c_Be_undo l g hg h1) Y_Be_undo V_Be_undo t_294 (by decide) (by decide) (e_0 g _ _) rfl rfl hl.1 rfl (Nat.le_of_ble_eq_true rfl) dLa_law_415 (fun H locs hP hS => ?_)
    refine lv_aload_n hx hb dLa_law_418 rfl (lv_at hl 2 rfl) ?_
    obtain ⟨r2, σ2, h2, h⟩ := bn_some h
    refine q_cVi (rest := [.int r1]) (As := []) cx hP hS hRk (c_Mo_undo l g hg h2) Y_Mo_undo V_Mo_undo t_657 (by decide) (by decide) (e_15 g _ _) rfl rfl hl.1 rfl (Nat.le_of_ble_eq_true rfl) dLa_law_419 (fun H locs hP hS => ?_)
    by_cases hr12 : r1 = r2
    · replace h := if_t h hr12
      refine lv_icmp_eq (tgt := 668) hx hb dLa_law_422 (by decide) (fun _ => ?_) (fun hc => absurd hr12 hc)
      exact J668 σ2 h H locs hP hS
    · cases if_f h hr12
  replace h := if_f h hc8
  rcases Decidable.em (xs n &&& 31 = (9 : Int32)) with hc9 | hc9
  · replace h := if_t h hc9
    refine lv_tableIn (tgt := 427) hx hb dLa_law_32 (by rw [hc9]; decide) (by rw [hc9]; decide) (by rw [hc9]; rfl) (by decide) ?_
    refine lv_aload_n hx hb dLa_law_427 rfl (lv_at hl 1 rfl) ?_
    obtain ⟨r1, σ1, h1, h⟩ := bn_some h
    refine q_cVi (rest := []) (As := []) cx hP hS hRk (c_Be_redo l g hg h1) Y_Be_redo V_Be_redo t_302 (by decide) (by decide) (e_0 g _ _) rfl rfl hl.1 rfl (Nat.le_of_ble_eq_true rfl) dLa_law_428 (fun H locs hP hS => ?_)
    refine lv_aload_n hx hb dLa_law_431 rfl (lv_at hl 2 rfl) ?_
    obtain ⟨r2, σ2, h2, h⟩ := bn_some h
    refine q_cVi (rest := [.int r1]) (As := []) cx hP hS hRk (c_Mo_redo l g hg h2) Y_Mo_redo V_Mo_redo t_669 (by decide) (by decide) (e_15 g _ _) rfl rfl hl.1 rfl (Nat.le_of_ble_eq_true rfl) dLa_law_432 (fun H locs hP hS => ?_)
    by_cases hr12 : r1 = r2
    · replace h := if_t h hr12
      refine lv_icmp_eq (tgt := 668) hx hb dLa_law_435 (by decide) (fun _ => ?_) (fun hc => absurd hr12 hc)
      exact J668 σ2 h H locs hP hS
    · cases if_f h hr12
  replace h := if_f h hc9
  rcases Decidable.em (xs n &&& 31 = (10 : Int32)) with hc10 | hc10
  · replace h := if_t h hc10
    refine lv_tableIn (tgt := 440) hx hb dLa_law_32 (by rw [hc10]; decide) (by rw [hc10]; decide) (by rw [hc10]; rfl) (by decide) ?_
    refine lv_aload_n hx hb dLa_law_440 rfl (lv_at hl 1 rfl) ?_
    obtain ⟨r1, σ1, h1, h⟩ := bn_some h
    refine q_cVi (rest := []) (As := []) cx hP hS hRk (c_Be_up l g hg h1) Y_Be_up V_Be_up t_310 (by decide) (by decide) (e_0 g _ _) rfl rfl hl.1 rfl (Nat.le_of_ble_eq_true rfl) dLa_law_441 (fun H locs hP hS => ?_)
    refine lv_aload_n hx hb dLa_law_444 rfl (lv_at hl 2 rfl) ?_
    obtain ⟨r2, σ2, h2, h⟩ := bn_some h
    refine q_cVi (rest := [.int r1]) (As := []) cx hP hS hRk (c_Mo_up l g hg h2) Y_Mo_up V_Mo_up t_758 (by decide) (by decide) (e_15 g _ _) rfl rfl hl.1 rfl (Nat.le_of_ble_eq_true rfl) dLa_law_445 (fun H locs hP hS => ?_)
    by_cases hr12 : r1 = r2
    · replace h := if_t h hr12
      refine lv_icmp_eq (tgt := 668) hx hb dLa_law_448 (by decide) (fun _ => ?_) (fun hc => absurd hr12 hc)
      exact J668 σ2 h H locs hP hS
    · cases if_f h hr12
  replace h := if_f h hc10
  rcases Decidable.em (xs n &&& 31 = (11 : Int32)) with hc11 | hc11
  · replace h := if_t h hc11
    refine lv_tableIn (tgt := 453) hx hb dLa_law_32 (by rw [hc11]; decide) (by rw [hc11]; decide) (by rw [hc11]; rfl) (by decide) ?_
    refine lv_aload_n hx hb dLa_law_453 rfl (lv_at hl 1 rfl) ?_
    refine lv_aload_n hx hb dLa_law_454 rfl (lv_at hl 0 rfl) ?_
    refine lv_iload_n hx hb dLa_law_455 rfl (lv_at hl 3 rfl) ?_
    refine lv_iconst (v := 1) hx hb dLa_law_456 (by decide) ?_
    refine lv_iadd hx hb dLa_law_457 ?_
    refine s_ld (j := n + 1) hx hb hX hbl hbA hS (by omega) (by omega) (nI_add n 1) dLa_law_458 ?_
    obtain ⟨r1, σ1, h1, h⟩ := bn_some h
    refine q_cVi (rest := []) (As := [.int (xs (n + 1))]) cx hP hS hRk (c_Be_down l g hg h1) Y_Be_down V_Be_down t_319 (by decide) (by decide) (e_0 g _ _) rfl rfl hl.1 rfl (Nat.le_of_ble_eq_true rfl) dLa_law_459 (fun H locs hP hS => ?_)
    refine lv_aload_n hx hb dLa_law_462 rfl (lv_at hl 2 rfl) ?_
    refine lv_aload_n hx hb dLa_law_463 rfl (lv_at hl 0 rfl) ?_
    refine lv_iload_n hx hb dLa_law_464 rfl (lv_at hl 3 rfl) ?_
    refine lv_iconst (v := 1) hx hb dLa_law_465 (by decide) ?_
    refine lv_iadd hx hb dLa_law_466 ?_
    refine s_ld (j := n + 1) hx hb hX hbl hbA hS (by omega) (by omega) (nI_add n 1) dLa_law_467 ?_
    obtain ⟨r2, σ2, h2, h⟩ := bn_some h
    refine q_cVi (rest := [.int r1]) (As := [.int (xs (n + 1))]) cx hP hS hRk (c_Mo_down l g hg h2) Y_Mo_down V_Mo_down t_762 (by decide) (by decide) (e_15 g _ _) rfl rfl hl.1 rfl (Nat.le_of_ble_eq_true rfl) dLa_law_468 (fun H locs hP hS => ?_)
    by_cases hr12 : r1 = r2
    · replace h := if_t h hr12
      refine lv_icmp_eq (tgt := 668) hx hb dLa_law_471 (by decide) (fun _ => ?_) (fun hc => absurd hr12 hc)
      exact J668 σ2 h H locs hP hS
    · cases if_f h hr12
  replace h := if_f h hc11
  rcases Decidable.em (xs n &&& 31 = (12 : Int32)) with hc12 | hc12
  · replace h := if_t h hc12
    refine lv_tableIn (tgt := 476) hx hb dLa_law_32 (by rw [hc12]; decide) (by rw [hc12]; decide) (by rw [hc12]; rfl) (by decide) ?_
    refine lv_aload_n hx hb dLa_law_476 rfl (lv_at hl 1 rfl) ?_
    obtain ⟨r1, σ1, h1, h⟩ := bn_some h
    refine q_cVi (rest := []) (As := []) cx hP hS hRk (c_Be_hole l g hg h1) Y_Be_hole V_Be_hole t_327 (by decide) (by decide) (e_0 g _ _) rfl rfl hl.1 rfl (Nat.le_of_ble_eq_true rfl) dLa_law_477 (fun H locs hP hS => ?_)
    refine lv_aload_n hx hb dLa_law_480 rfl (lv_at hl 2 rfl) ?_
    obtain ⟨r2, σ2, h2, h⟩ := bn_some h
    refine q_cVi (rest := [.int r1]) (As := []) cx hP hS hRk (c_Mo_hole l g hg h2) Y_Mo_hole V_Mo_hole t_770 (by decide) (by decide) (e_15 g _ _) rfl rfl hl.1 rfl (Nat.le_of_ble_eq_true rfl) dLa_law_481 (fun H locs hP hS => ?_)
    by_cases hr12 : r1 = r2
    · replace h := if_t h hr12
      refine lv_icmp_eq (tgt := 668) hx hb dLa_law_484 (by decide) (fun _ => ?_) (fun hc => absurd hr12 hc)
      exact J668 σ2 h H locs hP hS
    · cases if_f h hr12
  replace h := if_f h hc12
  rcases Decidable.em (xs n &&& 31 = (13 : Int32)) with hc13 | hc13
  · replace h := if_t h hc13
    refine lv_tableIn (tgt := 489) hx hb dLa_law_32 (by rw [hc13]; decide) (by rw [hc13]; decide) (by rw [hc13]; rfl) (by decide) ?_
    refine lv_aload_n hx hb dLa_law_489 rfl (lv_at hl 1 rfl) ?_
    refine lv_aload_n hx hb dLa_law_490 rfl (lv_at hl 0 rfl) ?_
    refine lv_iload_n hx hb dLa_law_491 rfl (lv_at hl 3 rfl) ?_
    refine lv_iconst (v := 1) hx hb dLa_law_492 (by decide) ?_
    refine lv_iadd hx hb dLa_law_493 ?_
    refine s_ld (j := n + 1) hx hb hX hbl hbA hS (by omega) (by omega) (nI_add n 1) dLa_law_494 ?_
    obtain ⟨r1, σ1, h1, h⟩ := bn_some h
    refine q_cVi (rest := []) (As := [.int (xs (n + 1))]) cx hP hS hRk (c_Be_click l g hg h1) Y_Be_click V_Be_click t_386 (by decide) (by decide) (e_0 g _ _) rfl rfl hl.1 rfl (Nat.le_of_ble_eq_true rfl) dLa_law_495 (fun H locs hP hS => ?_)
    refine lv_aload_n hx hb dLa_law_498 rfl (lv_at hl 2 rfl) ?_
    refine lv_aload_n hx hb dLa_law_499 rfl (lv_at hl 0 rfl) ?_
    refine lv_iload_n hx hb dLa_law_500 rfl (lv_at hl 3 rfl) ?_
    refine lv_iconst (v := 1) hx hb dLa_law_501 (by decide) ?_
    refine lv_iadd hx hb dLa_law_502 ?_
    refine s_ld (j := n + 1) hx hb hX hbl hbA hS (by omega) (by omega) (nI_add n 1) dLa_law_503 ?_
    obtain ⟨r2, σ2, h2, h⟩ := bn_some h
    refine q_cVi (rest := [.int r1]) (As := [.int (xs (n + 1))]) cx hP hS hRk (c_Mo_click l g hg h2) Y_Mo_click V_Mo_click t_798 (by decide) (by decide) (e_15 g _ _) rfl rfl hl.1 rfl (Nat.le_of_ble_eq_true rfl) dLa_law_504 (fun H locs hP hS => ?_)
    by_cases hr12 : r1 = r2
    · replace h := if_t h hr12
      refine lv_icmp_eq (tgt := 668) hx hb dLa_law_507 (by decide) (fun _ => ?_) (fun hc => absurd hr12 hc)
      exact J668 σ2 h H locs hP hS
    · cases if_f h hr12
  replace h := if_f h hc13
  rcases Decidable.em (xs n &&& 31 = (14 : Int32)) with hc14 | hc14
  · replace h := if_t h hc14
    refine lv_tableIn (tgt := 512) hx hb dLa_law_32 (by rw [hc14]; decide) (by rw [hc14]; decide) (by rw [hc14]; rfl) (by decide) ?_
    refine lv_aload_n hx hb dLa_law_512 rfl (lv_at hl 1 rfl) ?_
    obtain ⟨r1, σ1, h1, h⟩ := bn_some h
    refine q_cVi (rest := []) (As := []) cx hP hS hRk (c_Be_column l g hg h1) Y_Be_column V_Be_column t_394 (by decide) (by decide) (e_0 g _ _) rfl rfl hl.1 rfl (Nat.le_of_ble_eq_true rfl) dLa_law_513 (fun H locs hP hS => ?_)
    refine lv_aload_n hx hb dLa_law_516 rfl (lv_at hl 2 rfl) ?_
    obtain ⟨r2, σ2, h2, h⟩ := bn_some h
    refine q_cVi (rest := [.int r1]) (As := []) cx hP hS hRk (c_Mo_column l g hg h2) Y_Mo_column V_Mo_column t_802 (by decide) (by decide) (e_15 g _ _) rfl rfl hl.1 rfl (Nat.le_of_ble_eq_true rfl) dLa_law_517 (fun H locs hP hS => ?_)
    by_cases hr12 : r1 = r2
    · replace h := if_t h hr12
      refine lv_icmp_eq (tgt := 668) hx hb dLa_law_520 (by decide) (fun _ => ?_) (fun hc => absurd hr12 hc)
      exact J668 σ2 h H locs hP hS
    · cases if_f h hr12
  replace h := if_f h hc14
  rcases Decidable.em (xs n &&& 31 = (15 : Int32)) with hc15 | hc15
  · replace h := if_t h hc15
    refine lv_tableIn (tgt := 525) hx hb dLa_law_32 (by rw [hc15]; decide) (by rw [hc15]; decide) (by rw [hc15]; rfl) (by decide) ?_
    refine lv_aload_n hx hb dLa_law_525 rfl (lv_at hl 1 rfl) ?_
    obtain ⟨r1, σ1, h1, h⟩ := bn_some h
    refine q_cVi (rest := []) (As := []) cx hP hS hRk (c_Be_kind l g hg h1) Y_Be_kind V_Be_kind t_398 (by decide) (by decide) (e_0 g _ _) rfl rfl hl.1 rfl (Nat.le_of_ble_eq_true rfl) dLa_law_526 (fun H locs hP hS => ?_)
    refine lv_aload_n hx hb dLa_law_529 rfl (lv_at hl 2 rfl) ?_
    obtain ⟨r2, σ2, h2, h⟩ := bn_some h
    refine q_cVi (rest := [.int r1]) (As := []) cx hP hS hRk (c_Mo_kind l g hg h2) Y_Mo_kind V_Mo_kind t_806 (by decide) (by decide) (e_15 g _ _) rfl rfl hl.1 rfl (Nat.le_of_ble_eq_true rfl) dLa_law_530 (fun H locs hP hS => ?_)
    by_cases hr12 : r1 = r2
    · replace h := if_t h hr12
      refine lv_icmp_eq (tgt := 668) hx hb dLa_law_533 (by decide) (fun _ => ?_) (fun hc => absurd hr12 hc)
      exact J668 σ2 h H locs hP hS
    · cases if_f h hr12
  replace h := if_f h hc15
  rcases Decidable.em (xs n &&& 31 = (16 : Int32)) with hc16 | hc16
  · replace h := if_t h hc16
    refine lv_tableIn (tgt := 538) hx hb dLa_law_32 (by rw [hc16]; decide) (by rw [hc16]; decide) (by rw [hc16]; rfl) (by decide) ?_
    refine lv_aload_n hx hb dLa_law_538 rfl (lv_at hl 1 rfl) ?_
    obtain ⟨r1, σ1, h1, h⟩ := bn_some h
    refine q_cVi (rest := []) (As := []) cx hP hS hRk (c_Be_mark l g hg h1) Y_Be_mark V_Be_mark t_402 (by decide) (by decide) (e_0 g _ _) rfl rfl hl.1 rfl (Nat.le_of_ble_eq_true rfl) dLa_law_539 (fun H locs hP hS => ?_)
    refine lv_aload_n hx hb dLa_law_542 rfl (lv_at hl 2 rfl) ?_
    obtain ⟨r2, σ2, h2, h⟩ := bn_some h
    refine q_cVi (rest := [.int r1]) (As := []) cx hP hS hRk (c_Mo_mark l g hg h2) Y_Mo_mark V_Mo_mark t_814 (by decide) (by decide) (e_15 g _ _) rfl rfl hl.1 rfl (Nat.le_of_ble_eq_true rfl) dLa_law_543 (fun H locs hP hS => ?_)
    by_cases hr12 : r1 = r2
    · replace h := if_t h hr12
      refine lv_icmp_eq (tgt := 668) hx hb dLa_law_546 (by decide) (fun _ => ?_) (fun hc => absurd hr12 hc)
      exact J668 σ2 h H locs hP hS
    · cases if_f h hr12
  replace h := if_f h hc16
  rcases Decidable.em (xs n &&& 31 = (17 : Int32)) with hc17 | hc17
  · replace h := if_t h hc17
    refine lv_tableIn (tgt := 551) hx hb dLa_law_32 (by rw [hc17]; decide) (by rw [hc17]; decide) (by rw [hc17]; rfl) (by decide) ?_
    refine lv_aload_n hx hb dLa_law_551 rfl (lv_at hl 1 rfl) ?_
    obtain ⟨r1, σ1, h1, h⟩ := bn_some h
    refine q_cVl (rest := []) (As := []) cx hP hS hRk (c_Be_got l g hg h1) Y_Be_got V_Be_got t_450 (by decide) (by decide) (e_0 g _ _) rfl rfl hl.1 rfl (Nat.le_of_ble_eq_true rfl) dLa_law_552 (fun H locs hP hS => ?_)
    refine lv_aload_n hx hb dLa_law_555 rfl (lv_at hl 2 rfl) ?_
    obtain ⟨r2, σ2, h2, h⟩ := bn_some h
    refine q_cVl (rest := [.long r1]) (As := []) cx hP hS hRk (c_Mo_got l g hg h2) Y_Mo_got V_Mo_got t_861 (by decide) (by decide) (e_15 g _ _) rfl rfl hl.1 rfl (Nat.le_of_ble_eq_true rfl) dLa_law_556 (fun H locs hP hS => ?_)
    by_cases hr12 : r1 = r2
    · replace h := if_t h hr12
      refine W.lcmp hx hb dLa_law_559 ?_
      refine lv_if_eq (tgt := 668) hx hb dLa_law_560 (by decide) (fun _ => ?_) (fun hc => absurd (by rw [hr12]; exact s_cmp _) hc)
      exact J668 σ2 h H locs hP hS
    · cases if_f h hr12
  replace h := if_f h hc17
  rcases Decidable.em (xs n &&& 31 = (18 : Int32)) with hc18 | hc18
  · replace h := if_t h hc18
    refine lv_tableIn (tgt := 565) hx hb dLa_law_32 (by rw [hc18]; decide) (by rw [hc18]; decide) (by rw [hc18]; rfl) (by decide) ?_
    refine lv_aload_n hx hb dLa_law_565 rfl (lv_at hl 1 rfl) ?_
    obtain ⟨r1, σ1, h1, h⟩ := bn_some h
    refine q_cVl (rest := []) (As := []) cx hP hS hRk (c_Be_expected l g hg h1) Y_Be_expected V_Be_expected t_454 (by decide) (by decide) (e_0 g _ _) rfl rfl hl.1 rfl (Nat.le_of_ble_eq_true rfl) dLa_law_566 (fun H locs hP hS => ?_)
    refine lv_aload_n hx hb dLa_law_569 rfl (lv_at hl 2 rfl) ?_
    obtain ⟨r2, σ2, h2, h⟩ := bn_some h
    refine q_cVl (rest := [.long r1]) (As := []) cx hP hS hRk (c_Mo_expected l g hg h2) Y_Mo_expected V_Mo_expected t_865 (by decide) (by decide) (e_15 g _ _) rfl rfl hl.1 rfl (Nat.le_of_ble_eq_true rfl) dLa_law_570 (fun H locs hP hS => ?_)
    by_cases hr12 : r1 = r2
    · replace h := if_t h hr12
      refine W.lcmp hx hb dLa_law_573 ?_
      refine lv_if_eq (tgt := 668) hx hb dLa_law_574 (by decide) (fun _ => ?_) (fun hc => absurd (by rw [hr12]; exact s_cmp _) hc)
      exact J668 σ2 h H locs hP hS
    · cases if_f h hr12
  replace h := if_f h hc18
  rcases Decidable.em (xs n &&& 31 = (19 : Int32)) with hc19 | hc19
  · replace h := if_t h hc19
    refine lv_tableIn (tgt := 579) hx hb dLa_law_32 (by rw [hc19]; decide) (by rw [hc19]; decide) (by rw [hc19]; rfl) (by decide) ?_
    refine lv_aload_n hx hb dLa_law_579 rfl (lv_at hl 1 rfl) ?_
    obtain ⟨r1, σ1, h1, h⟩ := bn_some h
    refine q_cVi (rest := []) (As := []) cx hP hS hRk (c_Be_marks l g hg h1) Y_Be_marks V_Be_marks t_458 (by decide) (by decide) (e_0 g _ _) rfl rfl hl.1 rfl (Nat.le_of_ble_eq_true rfl) dLa_law_580 (fun H locs hP hS => ?_)
    refine lv_aload_n hx hb dLa_law_583 rfl (lv_at hl 2 rfl) ?_
    obtain ⟨r2, σ2, h2, h⟩ := bn_some h
    refine q_cVi (rest := [.int r1]) (As := []) cx hP hS hRk (c_Mo_marks l g hg h2) Y_Mo_marks V_Mo_marks t_869 (by decide) (by decide) (e_15 g _ _) rfl rfl hl.1 rfl (Nat.le_of_ble_eq_true rfl) dLa_law_584 (fun H locs hP hS => ?_)
    by_cases hr12 : r1 = r2
    · replace h := if_t h hr12
      refine lv_icmp_eq (tgt := 668) hx hb dLa_law_587 (by decide) (fun _ => ?_) (fun hc => absurd hr12 hc)
      exact J668 σ2 h H locs hP hS
    · cases if_f h hr12
  replace h := if_f h hc19
  rcases Decidable.em (xs n &&& 31 = (20 : Int32)) with hc20 | hc20
  · replace h := if_t h hc20
    refine lv_tableIn (tgt := 592) hx hb dLa_law_32 (by rw [hc20]; decide) (by rw [hc20]; decide) (by rw [hc20]; rfl) (by decide) ?_
    refine lv_aload_n hx hb dLa_law_592 rfl (lv_at hl 1 rfl) ?_
    obtain ⟨r1, σ1, h1, h⟩ := bn_some h
    refine q_cVi (rest := []) (As := []) cx hP hS hRk (c_Be_terms l g hg h1) Y_Be_terms V_Be_terms t_466 (by decide) (by decide) (e_0 g _ _) rfl rfl hl.1 rfl (Nat.le_of_ble_eq_true rfl) dLa_law_593 (fun H locs hP hS => ?_)
    refine lv_aload_n hx hb dLa_law_596 rfl (lv_at hl 2 rfl) ?_
    obtain ⟨r2, σ2, h2, h⟩ := bn_some h
    refine q_cVi (rest := [.int r1]) (As := []) cx hP hS hRk (c_Mo_terms l g hg h2) Y_Mo_terms V_Mo_terms t_873 (by decide) (by decide) (e_15 g _ _) rfl rfl hl.1 rfl (Nat.le_of_ble_eq_true rfl) dLa_law_597 (fun H locs hP hS => ?_)
    by_cases hr12 : r1 = r2
    · replace h := if_t h hr12
      refine lv_icmp_eq (tgt := 668) hx hb dLa_law_600 (by decide) (fun _ => ?_) (fun hc => absurd hr12 hc)
      exact J668 σ2 h H locs hP hS
    · cases if_f h hr12
  replace h := if_f h hc20
  rcases Decidable.em (xs n &&& 31 = (21 : Int32)) with hc21 | hc21
  · replace h := if_t h hc21
    refine lv_tableIn (tgt := 605) hx hb dLa_law_32 (by rw [hc21]; decide) (by rw [hc21]; decide) (by rw [hc21]; rfl) (by decide) ?_
    refine lv_aload_n hx hb dLa_law_605 rfl (lv_at hl 1 rfl) ?_
    refine lv_aload_n hx hb dLa_law_606 rfl (lv_at hl 0 rfl) ?_
    refine lv_iload_n hx hb dLa_law_607 rfl (lv_at hl 3 rfl) ?_
    refine lv_iconst (v := 1) hx hb dLa_law_608 (by decide) ?_
    refine lv_iadd hx hb dLa_law_609 ?_
    refine s_ld (j := n + 1) hx hb hX hbl hbA hS (by omega) (by omega) (nI_add n 1) dLa_law_610 ?_
    obtain ⟨r1, σ1, h1, h⟩ := bn_some h
    refine q_cVl (rest := []) (As := [.int (xs (n + 1))]) cx hP hS hRk (c_Be_text l g hg h1) Y_Be_text V_Be_text t_470 (by decide) (by decide) (e_0 g _ _) rfl rfl hl.1 rfl (Nat.le_of_ble_eq_true rfl) dLa_law_611 (fun H locs hP hS => ?_)
    refine lv_aload_n hx hb dLa_law_614 rfl (lv_at hl 2 rfl) ?_
    refine lv_aload_n hx hb dLa_law_615 rfl (lv_at hl 0 rfl) ?_
    refine lv_iload_n hx hb dLa_law_616 rfl (lv_at hl 3 rfl) ?_
    refine lv_iconst (v := 1) hx hb dLa_law_617 (by decide) ?_
    refine lv_iadd hx hb dLa_law_618 ?_
    refine s_ld (j := n + 1) hx hb hX hbl hbA hS (by omega) (by omega) (nI_add n 1) dLa_law_619 ?_
    obtain ⟨r2, σ2, h2, h⟩ := bn_some h
    refine q_cVl (rest := [.long r1]) (As := [.int (xs (n + 1))]) cx hP hS hRk (c_Mo_text l g hg h2) Y_Mo_text V_Mo_text t_810 (by decide) (by decide) (e_15 g _ _) rfl rfl hl.1 rfl (Nat.le_of_ble_eq_true rfl) dLa_law_620 (fun H locs hP hS => ?_)
    by_cases hr12 : r1 = r2
    · replace h := if_t h hr12
      refine W.lcmp hx hb dLa_law_623 ?_
      refine lv_if_eq (tgt := 668) hx hb dLa_law_624 (by decide) (fun _ => ?_) (fun hc => absurd (by rw [hr12]; exact s_cmp _) hc)
      exact J668 σ2 h H locs hP hS
    · cases if_f h hr12
  replace h := if_f h hc21
  rcases Decidable.em (xs n &&& 31 = (22 : Int32)) with hc22 | hc22
  · replace h := if_t h hc22
    refine lv_tableIn (tgt := 629) hx hb dLa_law_32 (by rw [hc22]; decide) (by rw [hc22]; decide) (by rw [hc22]; rfl) (by decide) ?_
    refine lv_aload_n hx hb dLa_law_629 rfl (lv_at hl 1 rfl) ?_
    obtain ⟨r1, σ1, h1, h⟩ := bn_some h
    refine q_cVi (rest := []) (As := []) cx hP hS hRk (c_Be_run l g hg h1) Y_Be_run V_Be_run t_478 (by decide) (by decide) (e_0 g _ _) rfl rfl hl.1 rfl (Nat.le_of_ble_eq_true rfl) dLa_law_630 (fun H locs hP hS => ?_)
    refine lv_aload_n hx hb dLa_law_633 rfl (lv_at hl 2 rfl) ?_
    obtain ⟨r2, σ2, h2, h⟩ := bn_some h
    refine q_cVi (rest := [.int r1]) (As := []) cx hP hS hRk (c_Mo_run l g hg h2) Y_Mo_run V_Mo_run t_877 (by decide) (by decide) (e_15 g _ _) rfl rfl hl.1 rfl (Nat.le_of_ble_eq_true rfl) dLa_law_634 (fun H locs hP hS => ?_)
    by_cases hr12 : r1 = r2
    · replace h := if_t h hr12
      refine lv_icmp_eq (tgt := 668) hx hb dLa_law_637 (by decide) (fun _ => ?_) (fun hc => absurd hr12 hc)
      exact J668 σ2 h H locs hP hS
    · cases if_f h hr12
  replace h := if_f h hc22
  rcases Decidable.em (xs n &&& 31 = (23 : Int32)) with hc23 | hc23
  · replace h := if_t h hc23
    refine lv_tableIn (tgt := 642) hx hb dLa_law_32 (by rw [hc23]; decide) (by rw [hc23]; decide) (by rw [hc23]; rfl) (by decide) ?_
    refine lv_aload_n hx hb dLa_law_642 rfl (lv_at hl 1 rfl) ?_
    obtain ⟨r1, σ1, h1, h⟩ := bn_some h
    refine q_cVi (rest := []) (As := []) cx hP hS hRk (c_Be_result l g hg h1) Y_Be_result V_Be_result t_516 (by decide) (by decide) (e_0 g _ _) rfl rfl hl.1 rfl (Nat.le_of_ble_eq_true rfl) dLa_law_643 (fun H locs hP hS => ?_)
    refine lv_aload_n hx hb dLa_law_646 rfl (lv_at hl 2 rfl) ?_
    obtain ⟨r2, σ2, h2, h⟩ := bn_some h
    refine q_cVi (rest := [.int r1]) (As := []) cx hP hS hRk (c_Mo_result l g hg h2) Y_Mo_result V_Mo_result t_909 (by decide) (by decide) (e_15 g _ _) rfl rfl hl.1 rfl (Nat.le_of_ble_eq_true rfl) dLa_law_647 (fun H locs hP hS => ?_)
    by_cases hr12 : r1 = r2
    · replace h := if_t h hr12
      refine lv_icmp_eq (tgt := 668) hx hb dLa_law_650 (by decide) (fun _ => ?_) (fun hc => absurd hr12 hc)
      exact J668 σ2 h H locs hP hS
    · cases if_f h hr12
  replace h := if_f h hc23
  rcases Decidable.em (xs n &&& 31 = (24 : Int32)) with hc24 | hc24
  · replace h := if_t h hc24
    refine lv_tableIn (tgt := 655) hx hb dLa_law_32 (by rw [hc24]; decide) (by rw [hc24]; decide) (by rw [hc24]; rfl) (by decide) ?_
    refine lv_aload_n hx hb dLa_law_655 rfl (lv_at hl 1 rfl) ?_
    obtain ⟨r1, σ1, h1, h⟩ := bn_some h
    refine q_cVi (rest := []) (As := []) cx hP hS hRk (c_Be_units l g hg h1) Y_Be_units V_Be_units t_520 (by decide) (by decide) (e_0 g _ _) rfl rfl hl.1 rfl (Nat.le_of_ble_eq_true rfl) dLa_law_656 (fun H locs hP hS => ?_)
    refine lv_aload_n hx hb dLa_law_659 rfl (lv_at hl 2 rfl) ?_
    obtain ⟨r2, σ2, h2, h⟩ := bn_some h
    refine q_cVi (rest := [.int r1]) (As := []) cx hP hS hRk (c_Mo_units l g hg h2) Y_Mo_units V_Mo_units t_913 (by decide) (by decide) (e_15 g _ _) rfl rfl hl.1 rfl (Nat.le_of_ble_eq_true rfl) dLa_law_660 (fun H locs hP hS => ?_)
    by_cases hr12 : r1 = r2
    · replace h := if_t h hr12
      refine lv_icmp_eq (tgt := 668) hx hb dLa_law_663 (by decide) (fun _ => ?_) (fun hc => absurd hr12 hc)
      exact J668 σ2 h H locs hP hS
    · cases if_f h hr12
  replace h := if_f h hc24
  have hsw : (xs n &&& 31).toInt < 0 ∨ 24 < (xs n &&& 31).toInt := by
    have n0 := lv_neT (k := 0) (a := 0) hc0 rfl
    have n1 := lv_neT (k := 1) (a := 1) hc1 rfl
    have n2 := lv_neT (k := 2) (a := 2) hc2 rfl
    have n3 := lv_neT (k := 3) (a := 3) hc3 rfl
    have n4 := lv_neT (k := 4) (a := 4) hc4 rfl
    have n5 := lv_neT (k := 5) (a := 5) hc5 rfl
    have n6 := lv_neT (k := 6) (a := 6) hc6 rfl
    have n7 := lv_neT (k := 7) (a := 7) hc7 rfl
    have n8 := lv_neT (k := 8) (a := 8) hc8 rfl
    have n9 := lv_neT (k := 9) (a := 9) hc9 rfl
    have n10 := lv_neT (k := 10) (a := 10) hc10 rfl
    have n11 := lv_neT (k := 11) (a := 11) hc11 rfl
    have n12 := lv_neT (k := 12) (a := 12) hc12 rfl
    have n13 := lv_neT (k := 13) (a := 13) hc13 rfl
    have n14 := lv_neT (k := 14) (a := 14) hc14 rfl
    have n15 := lv_neT (k := 15) (a := 15) hc15 rfl
    have n16 := lv_neT (k := 16) (a := 16) hc16 rfl
    have n17 := lv_neT (k := 17) (a := 17) hc17 rfl
    have n18 := lv_neT (k := 18) (a := 18) hc18 rfl
    have n19 := lv_neT (k := 19) (a := 19) hc19 rfl
    have n20 := lv_neT (k := 20) (a := 20) hc20 rfl
    have n21 := lv_neT (k := 21) (a := 21) hc21 rfl
    have n22 := lv_neT (k := 22) (a := 22) hc22 rfl
    have n23 := lv_neT (k := 23) (a := 23) hc23 rfl
    have n24 := lv_neT (k := 24) (a := 24) hc24 rfl
    omega
  refine lv_tableOut (tgt := 668) hx hb dLa_law_32 hsw (by decide) ?_
  exact J668 σ h H locs hP hS
