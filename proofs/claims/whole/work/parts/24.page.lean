/-! 24.page, by program: pure functions and contracts -/
theorem dPa_clear_0 : decode cPa_clear 0 = .ok (.aload_n 0, 1) := by decide +kernel
theorem dPa_clear_1 : decode cPa_clear 1 = .ok (.getfield 11, 3) := by decide +kernel
theorem dPa_clear_4 : decode cPa_clear 4 = .ok (.lconst 0, 1) := by decide +kernel
theorem dPa_clear_5 : decode cPa_clear 5 = .ok (.invokestatic 29, 3) := by decide +kernel
theorem dPa_clear_8 : decode cPa_clear 8 = .ok (.aload_n 0, 1) := by decide +kernel
theorem dPa_clear_9 : decode cPa_clear 9 = .ok (.iconst 0, 1) := by decide +kernel
theorem dPa_clear_10 : decode cPa_clear 10 = .ok (.putfield 22, 3) := by decide +kernel
theorem dPa_clear_13 : decode cPa_clear 13 = .ok (.return_, 1) := by decide +kernel
def f_Pa_clear   (σ : Mem) : Option (Unit × Mem) :=
  bn (f_Ar_fill (0 : Int64) σ) fun (_ : Unit) (σ2 : Mem) =>
  lt_ (sI σ2 7 3 (0 : Int32)) fun (σ3 : Mem) =>
  some ((), σ3)
set_option maxHeartbeats 4000000 in
set_option maxRecDepth 100000 in
theorem c_Pa_clear (l : Launch) (g : Gw) (hg : wInj g) {σ σ0 : Mem} (h : f_Pa_clear σ = some ((), σ0)) : KV l yPa_clear cPa_clear 1 none 1 g [.ref (ad g 7)] σ σ0 := by
  refine q_met g hg (own := "TermBench$Page") rfl rfl (Nat.le_of_ble_eq_true rfl) (fun p e s m args below meth c R Q cx hRk hr hQ H locs ls hP hS hl => ?_)
  have hx := cx.1
  have hb := cx.2.1
  have hown := cx.2.2.2.1
  have hts := cx.2.2.2.2.1
  have hl : lv_has ls 1 [(0, .ref (ad g 7))] := hl
  unfold f_Pa_clear at h
  refine lv_aload_n hx hb dPa_clear_0 rfl (lv_at hl 0 rfl) ?_
  refine g_Pa_words cx hP  t_112 dPa_clear_1 ?_
  refine lv_lconst (v := 0) hx hb dPa_clear_4 rfl ?_
  obtain ⟨rh1, σ2, h1, h⟩ := bn_some h
  refine q_cSv (rest := []) (As := [.ref (ad g 8), .long (0 : Int64)]) cx hP hS hRk (c_Ar_fill l g hg h1) Y_Ar_fill S_Ar_fill t_339 (by decide) rfl hl.1 rfl (Nat.le_of_ble_eq_true rfl) dPa_clear_5 (fun H locs hP hS => ?_)
  refine lv_aload_n hx hb dPa_clear_8 rfl (lv_at hl 0 rfl) ?_
  refine lv_iconst (v := 0) hx hb dPa_clear_9 (by decide) ?_
  obtain ⟨σ3, eσ3, h⟩ := lt_some h
  refine p_Pa_length cx hP hS t_116 dPa_clear_10 eσ3 (fun H locs hP hS => ?_)
  exact q_rv cx hr hP hS hQ h dPa_clear_13
theorem dPa_writeSign_0 : decode cPa_writeSign 0 = .ok (.aload_n 0, 1) := by decide +kernel
theorem dPa_writeSign_1 : decode cPa_writeSign 1 = .ok (.getfield 22, 3) := by decide +kernel
theorem dPa_writeSign_4 : decode cPa_writeSign 4 = .ok (.sipush 1760, 3) := by decide +kernel
theorem dPa_writeSign_7 : decode cPa_writeSign 7 = .ok (.if_icmp .lt 4, 3) := by decide +kernel
theorem dPa_writeSign_10 : decode cPa_writeSign 10 = .ok (.return_, 1) := by decide +kernel
theorem dPa_writeSign_11 : decode cPa_writeSign 11 = .ok (.aload_n 0, 1) := by decide +kernel
theorem dPa_writeSign_12 : decode cPa_writeSign 12 = .ok (.getfield 11, 3) := by decide +kernel
theorem dPa_writeSign_15 : decode cPa_writeSign 15 = .ok (.aload_n 0, 1) := by decide +kernel
theorem dPa_writeSign_16 : decode cPa_writeSign 16 = .ok (.getfield 22, 3) := by decide +kernel
theorem dPa_writeSign_19 : decode cPa_writeSign 19 = .ok (.bipush 8, 2) := by decide +kernel
theorem dPa_writeSign_21 : decode cPa_writeSign 21 = .ok (.idiv, 1) := by decide +kernel
theorem dPa_writeSign_22 : decode cPa_writeSign 22 = .ok (.dup2, 1) := by decide +kernel
theorem dPa_writeSign_23 : decode cPa_writeSign 23 = .ok (.laload, 1) := by decide +kernel
theorem dPa_writeSign_24 : decode cPa_writeSign 24 = .ok (.iload_n 1, 1) := by decide +kernel
theorem dPa_writeSign_25 : decode cPa_writeSign 25 = .ok (.i2l, 1) := by decide +kernel
theorem dPa_writeSign_26 : decode cPa_writeSign 26 = .ok (.bipush 8, 2) := by decide +kernel
theorem dPa_writeSign_28 : decode cPa_writeSign 28 = .ok (.aload_n 0, 1) := by decide +kernel
theorem dPa_writeSign_29 : decode cPa_writeSign 29 = .ok (.getfield 22, 3) := by decide +kernel
theorem dPa_writeSign_32 : decode cPa_writeSign 32 = .ok (.bipush 8, 2) := by decide +kernel
theorem dPa_writeSign_34 : decode cPa_writeSign 34 = .ok (.irem, 1) := by decide +kernel
theorem dPa_writeSign_35 : decode cPa_writeSign 35 = .ok (.imul, 1) := by decide +kernel
theorem dPa_writeSign_36 : decode cPa_writeSign 36 = .ok (.lshl, 1) := by decide +kernel
theorem dPa_writeSign_37 : decode cPa_writeSign 37 = .ok (.lor, 1) := by decide +kernel
theorem dPa_writeSign_38 : decode cPa_writeSign 38 = .ok (.lastore, 1) := by decide +kernel
theorem dPa_writeSign_39 : decode cPa_writeSign 39 = .ok (.aload_n 0, 1) := by decide +kernel
theorem dPa_writeSign_40 : decode cPa_writeSign 40 = .ok (.dup, 1) := by decide +kernel
theorem dPa_writeSign_41 : decode cPa_writeSign 41 = .ok (.getfield 22, 3) := by decide +kernel
theorem dPa_writeSign_44 : decode cPa_writeSign 44 = .ok (.iconst 1, 1) := by decide +kernel
theorem dPa_writeSign_45 : decode cPa_writeSign 45 = .ok (.iadd, 1) := by decide +kernel
theorem dPa_writeSign_46 : decode cPa_writeSign 46 = .ok (.putfield 22, 3) := by decide +kernel
theorem dPa_writeSign_49 : decode cPa_writeSign 49 = .ok (.return_, 1) := by decide +kernel
def f_Pa_writeSign  (v1 : Int32) (σ : Mem) : Option (Unit × Mem) :=
  if (σ.1 7 3) < (1760 : Int32) then (
  gd (inb ((σ.1 7 3) / (8 : Int32)) 220) (
  gd (inb ((σ.1 7 3) / (8 : Int32)) 220) (lt_ (sL σ 8 ((σ.1 7 3) / (8 : Int32)).toNatClampNeg ((σ.2 8 ((σ.1 7 3) / (8 : Int32)).toNatClampNeg) ||| (v1.toInt64 <<< (((8 : Int32) * ((σ.1 7 3) - (σ.1 7 3) / (8 : Int32) * (8 : Int32))).toInt64 &&& 63)))) fun (σ3 : Mem) =>
  lt_ (sI σ3 7 3 ((σ3.1 7 3) + (1 : Int32))) fun (σ4 : Mem) =>
  some ((), σ4))))
  else (
  some ((), σ))
set_option maxHeartbeats 4000000 in
set_option maxRecDepth 100000 in
theorem c_Pa_writeSign (l : Launch) (g : Gw) (hg : wInj g) {v1 : Int32} {σ σ0 : Mem} (h : f_Pa_writeSign v1 σ = some ((), σ0)) : KV l yPa_writeSign cPa_writeSign 2 none 0 g [.ref (ad g 7), .int v1] σ σ0 := by
  refine q_met g hg (own := "TermBench$Page") rfl rfl (Nat.le_of_ble_eq_true rfl) (fun p e s m args below meth c R Q cx hRk hr hQ H locs ls hP hS hl => ?_)
  have hx := cx.1
  have hb := cx.2.1
  have hown := cx.2.2.2.1
  have hts := cx.2.2.2.2.1
  have hl : lv_has ls 2 [(0, .ref (ad g 7)), (1, .int v1)] := hl
  unfold f_Pa_writeSign at h
  refine lv_aload_n hx hb dPa_writeSign_0 rfl (lv_at hl 0 rfl) ?_
  refine g_Pa_length cx hP  t_116 dPa_writeSign_1 ?_
  refine lv_sipush (v := 1760) hx hb dPa_writeSign_4 (by decide) ?_
  refine lv_icmp_lt (tgt := 11) hx hb dPa_writeSign_7 (by decide) (fun hc => ?_) (fun hc => ?_)
  · replace h := if_t h hc
    refine lv_aload_n hx hb dPa_writeSign_11 rfl (lv_at hl 0 rfl) ?_
    refine g_Pa_words cx hP  t_112 dPa_writeSign_12 ?_
    refine lv_aload_n hx hb dPa_writeSign_15 rfl (lv_at hl 0 rfl) ?_
    refine g_Pa_length cx hP  t_116 dPa_writeSign_16 ?_
    refine lv_bipush (v := 8) hx hb dPa_writeSign_19 (by decide) ?_
    refine lv_idiv hx hb dPa_writeSign_21 (by decide) ?_
    refine lv_dup2_11 hx hb dPa_writeSign_22 rfl rfl ?_
    obtain ⟨b1, h⟩ := gd_some h
    refine q_lald cx hP (by decide) (e_8 g) b1 dPa_writeSign_23 ?_
    refine lv_iload_n hx hb dPa_writeSign_24 rfl (lv_at hl 1 rfl) ?_
    refine lv_i2l hx hb dPa_writeSign_25 rfl ?_
    refine lv_bipush (v := 8) hx hb dPa_writeSign_26 (by decide) ?_
    refine lv_aload_n hx hb dPa_writeSign_28 rfl (lv_at hl 0 rfl) ?_
    refine g_Pa_length cx hP  t_116 dPa_writeSign_29 ?_
    refine lv_bipush (v := 8) hx hb dPa_writeSign_32 (by decide) ?_
    refine lv_irem hx hb dPa_writeSign_34 (by decide) ?_
    refine lv_imul hx hb dPa_writeSign_35 ?_
    refine lv_lshl hx hb dPa_writeSign_36 rfl ?_
    refine lv_lor hx hb dPa_writeSign_37 ?_
    obtain ⟨b2, h⟩ := gd_some h
    obtain ⟨σ3, eσ3, h⟩ := lt_some h
    refine q_last cx hP hS (by decide) (e_8 g) b2 dPa_writeSign_38 eσ3 (fun H locs hP hS => ?_)
    refine lv_aload_n hx hb dPa_writeSign_39 rfl (lv_at hl 0 rfl) ?_
    refine lv_dup hx hb dPa_writeSign_40 rfl ?_
    refine g_Pa_length cx hP  t_116 dPa_writeSign_41 ?_
    refine lv_iconst (v := 1) hx hb dPa_writeSign_44 (by decide) ?_
    refine lv_iadd hx hb dPa_writeSign_45 ?_
    obtain ⟨σ4, eσ4, h⟩ := lt_some h
    refine p_Pa_length cx hP hS t_116 dPa_writeSign_46 eσ4 (fun H locs hP hS => ?_)
    exact q_rv cx hr hP hS hQ h dPa_writeSign_49
  · replace h := if_f h hc
    exact q_rv cx hr hP hS hQ h dPa_writeSign_10
theorem dPa_writeName_0 : decode cPa_writeName 0 = .ok (.aload_n 0, 1) := by decide +kernel
theorem dPa_writeName_1 : decode cPa_writeName 1 = .ok (.bipush 97, 2) := by decide +kernel
theorem dPa_writeName_3 : decode cPa_writeName 3 = .ok (.iload_n 1, 1) := by decide +kernel
theorem dPa_writeName_4 : decode cPa_writeName 4 = .ok (.iadd, 1) := by decide +kernel
theorem dPa_writeName_5 : decode cPa_writeName 5 = .ok (.invokevirtual 56, 3) := by decide +kernel
theorem dPa_writeName_8 : decode cPa_writeName 8 = .ok (.return_, 1) := by decide +kernel
def f_Pa_writeName  (v1 : Int32) (σ : Mem) : Option (Unit × Mem) :=
  bn (f_Pa_writeSign ((97 : Int32) + v1) σ) fun (_ : Unit) (σ2 : Mem) =>
  some ((), σ2)
set_option maxHeartbeats 4000000 in
set_option maxRecDepth 100000 in
theorem c_Pa_writeName (l : Launch) (g : Gw) (hg : wInj g) {v1 : Int32} {σ σ0 : Mem} (h : f_Pa_writeName v1 σ = some ((), σ0)) : KV l yPa_writeName cPa_writeName 2 none 1 g [.ref (ad g 7), .int v1] σ σ0 := by
  refine q_met g hg (own := "TermBench$Page") rfl rfl (Nat.le_of_ble_eq_true rfl) (fun p e s m args below meth c R Q cx hRk hr hQ H locs ls hP hS hl => ?_)
  have hx := cx.1
  have hb := cx.2.1
  have hown := cx.2.2.2.1
  have hts := cx.2.2.2.2.1
  have hl : lv_has ls 2 [(0, .ref (ad g 7)), (1, .int v1)] := hl
  unfold f_Pa_writeName at h
  refine lv_aload_n hx hb dPa_writeName_0 rfl (lv_at hl 0 rfl) ?_
  refine lv_bipush (v := 97) hx hb dPa_writeName_1 (by decide) ?_
  refine lv_iload_n hx hb dPa_writeName_3 rfl (lv_at hl 1 rfl) ?_
  refine lv_iadd hx hb dPa_writeName_4 ?_
  obtain ⟨rh1, σ2, h1, h⟩ := bn_some h
  refine q_cVv (rest := []) (As := [.int ((97 : Int32) + v1)]) cx hP hS hRk (c_Pa_writeSign l g hg h1) Y_Pa_writeSign V_Pa_writeSign t_353 (by decide) (by decide) (e_7 g _ _) rfl rfl hl.1 rfl (Nat.le_of_ble_eq_true rfl) dPa_writeName_5 (fun H locs hP hS => ?_)
  exact q_rv cx hr hP hS hQ h dPa_writeName_8
theorem dPa_writeType_0 : decode cPa_writeType 0 = .ok (.iload_n 3, 1) := by decide +kernel
theorem dPa_writeType_1 : decode cPa_writeType 1 = .ok (.bipush 27, 2) := by decide +kernel
theorem dPa_writeType_3 : decode cPa_writeType 3 = .ok (.if_icmp .lt 4, 3) := by decide +kernel
theorem dPa_writeType_6 : decode cPa_writeType 6 = .ok (.return_, 1) := by decide +kernel
theorem dPa_writeType_7 : decode cPa_writeType 7 = .ok (.lload_n 1, 1) := by decide +kernel
theorem dPa_writeType_8 : decode cPa_writeType 8 = .ok (.invokestatic 79, 3) := by decide +kernel
theorem dPa_writeType_11 : decode cPa_writeType 11 = .ok (.ifCond .ne 23, 3) := by decide +kernel
theorem dPa_writeType_14 : decode cPa_writeType 14 = .ok (.aload_n 0, 1) := by decide +kernel
theorem dPa_writeType_15 : decode cPa_writeType 15 = .ok (.lload_n 1, 1) := by decide +kernel
theorem dPa_writeType_16 : decode cPa_writeType 16 = .ok (.ldc2_w 83, 3) := by decide +kernel
theorem dPa_writeType_19 : decode cPa_writeType 19 = .ok (.lcmp, 1) := by decide +kernel
theorem dPa_writeType_20 : decode cPa_writeType 20 = .ok (.ifCond .ne 8, 3) := by decide +kernel
theorem dPa_writeType_23 : decode cPa_writeType 23 = .ok (.bipush 35, 2) := by decide +kernel
theorem dPa_writeType_25 : decode cPa_writeType 25 = .ok (.goto 5, 3) := by decide +kernel
theorem dPa_writeType_28 : decode cPa_writeType 28 = .ok (.bipush 42, 2) := by decide +kernel
theorem dPa_writeType_30 : decode cPa_writeType 30 = .ok (.invokevirtual 56, 3) := by decide +kernel
theorem dPa_writeType_33 : decode cPa_writeType 33 = .ok (.return_, 1) := by decide +kernel
theorem dPa_writeType_34 : decode cPa_writeType 34 = .ok (.aload_n 0, 1) := by decide +kernel
theorem dPa_writeType_35 : decode cPa_writeType 35 = .ok (.bipush 60, 2) := by decide +kernel
theorem dPa_writeType_37 : decode cPa_writeType 37 = .ok (.invokevirtual 56, 3) := by decide +kernel
theorem dPa_writeType_40 : decode cPa_writeType 40 = .ok (.aload_n 0, 1) := by decide +kernel
theorem dPa_writeType_41 : decode cPa_writeType 41 = .ok (.lload_n 1, 1) := by decide +kernel
theorem dPa_writeType_42 : decode cPa_writeType 42 = .ok (.invokestatic 85, 3) := by decide +kernel
theorem dPa_writeType_45 : decode cPa_writeType 45 = .ok (.iload_n 3, 1) := by decide +kernel
theorem dPa_writeType_46 : decode cPa_writeType 46 = .ok (.iconst 1, 1) := by decide +kernel
theorem dPa_writeType_47 : decode cPa_writeType 47 = .ok (.iadd, 1) := by decide +kernel
theorem dPa_writeType_48 : decode cPa_writeType 48 = .ok (.invokevirtual 73, 3) := by decide +kernel
theorem dPa_writeType_51 : decode cPa_writeType 51 = .ok (.aload_n 0, 1) := by decide +kernel
theorem dPa_writeType_52 : decode cPa_writeType 52 = .ok (.lload_n 1, 1) := by decide +kernel
theorem dPa_writeType_53 : decode cPa_writeType 53 = .ok (.invokestatic 89, 3) := by decide +kernel
theorem dPa_writeType_56 : decode cPa_writeType 56 = .ok (.iload_n 3, 1) := by decide +kernel
theorem dPa_writeType_57 : decode cPa_writeType 57 = .ok (.iconst 1, 1) := by decide +kernel
theorem dPa_writeType_58 : decode cPa_writeType 58 = .ok (.iadd, 1) := by decide +kernel
theorem dPa_writeType_59 : decode cPa_writeType 59 = .ok (.invokevirtual 73, 3) := by decide +kernel
theorem dPa_writeType_62 : decode cPa_writeType 62 = .ok (.aload_n 0, 1) := by decide +kernel
theorem dPa_writeType_63 : decode cPa_writeType 63 = .ok (.bipush 62, 2) := by decide +kernel
theorem dPa_writeType_65 : decode cPa_writeType 65 = .ok (.invokevirtual 56, 3) := by decide +kernel
theorem dPa_writeType_68 : decode cPa_writeType 68 = .ok (.return_, 1) := by decide +kernel
def f_Pa_writeType_J30 (rc : Int64 → Int32 → Mem → Option (Unit × Mem))  (v1 : Int64) (v3 : Int32) (u1 : Int32) (σ : Mem) : Option (Unit × Mem) :=
  bn (f_Pa_writeSign u1 σ) fun (_ : Unit) (σ2 : Mem) =>
  some ((), σ2)
def f_Pa_writeType (rc : Int64 → Int32 → Mem → Option (Unit × Mem))  (v1 : Int64) (v3 : Int32) (σ : Mem) : Option (Unit × Mem) :=
  if v3 < (27 : Int32) then (
  bn (f_Ty_isFrom v1 σ) fun (r5 : Int32) (σ4 : Mem) =>
  if r5 = 0 then (
  if (lg_cmp v1 (2 : Int64)) = 0 then (
  f_Pa_writeType_J30 rc v1 v3 (35 : Int32) σ4)
  else (
  f_Pa_writeType_J30 rc v1 v3 (42 : Int32) σ4))
  else (
  bn (f_Pa_writeSign (60 : Int32) σ4) fun (_ : Unit) (σ7 : Mem) =>
  bn (f_Ty_taken v1 σ7) fun (r10 : Int64) (σ9 : Mem) =>
  bn (rc r10 (v3 + (1 : Int32)) σ9) fun (_ : Unit) (σ12 : Mem) =>
  bn (f_Ty_given v1 σ12) fun (r15 : Int64) (σ14 : Mem) =>
  bn (rc r15 (v3 + (1 : Int32)) σ14) fun (_ : Unit) (σ17 : Mem) =>
  bn (f_Pa_writeSign (62 : Int32) σ17) fun (_ : Unit) (σ19 : Mem) =>
  some ((), σ19)))
  else (
  some ((), σ))
set_option maxHeartbeats 4000000 in
set_option maxRecDepth 100000 in
theorem c_Pa_writeType (l : Launch) (g : Gw) (hg : wInj g) {rc : Int64 → Int32 → Mem → Option (Unit × Mem)} {d0 : Nat} (hd0 : 2 ≤ d0) (hrc : ∀ {v1 : Int64} {v3 : Int32} {σ σ0 : Mem}, rc v1 v3 σ = some ((), σ0) → KV l yPa_writeType cPa_writeType 4 none d0 g [.ref (ad g 7), .long v1, .int v3] σ σ0) {v1 : Int64} {v3 : Int32} {σ σ0 : Mem} (h : f_Pa_writeType rc v1 v3 σ = some ((), σ0)) : KV l yPa_writeType cPa_writeType 4 none (d0 + 1) g [.ref (ad g 7), .long v1, .int v3] σ σ0 := by
  refine q_met g hg (own := "TermBench$Page") rfl rfl (Nat.le_of_ble_eq_true rfl) (fun p e s m args below meth c R Q cx hRk hr hQ H locs ls hP hS hl => ?_)
  have hx := cx.1
  have hb := cx.2.1
  have hown := cx.2.2.2.1
  have hts := cx.2.2.2.2.1
  have hl : lv_has ls 4 [(0, .ref (ad g 7)), (1, .long v1), (3, .int v3)] := hl
  have J30 : ∀ (v1 : Int64) (v3 : Int32) (u1 : Int32) (σ : Mem), f_Pa_writeType_J30 rc v1 v3 u1 σ = some ((), σ0) → ∀ (H : Heap) (locs : List Loc) (ls : Array Slot), lv_has ls 4 [(0, .ref (ad g 7)), (1, .long v1), (3, .int v3)] → Wd g σ H → va_S (wA g) s.heap H locs → W p l e R s m args below meth c H locs 0 0 Q (F0 m 30 ls [.int u1, .ref (ad g 7)]) := by
    intro v1 v3 u1 σ h H locs ls hl hP hS
    unfold f_Pa_writeType_J30 at h
    obtain ⟨rh1, σ2, h1, h⟩ := bn_some h
    refine q_cVv (rest := []) (As := [.int u1]) cx hP hS hRk (c_Pa_writeSign l g hg h1) Y_Pa_writeSign V_Pa_writeSign t_353 (by omega) (by decide) (e_7 g _ _) rfl rfl hl.1 rfl (Nat.le_of_ble_eq_true rfl) dPa_writeType_30 (fun H locs hP hS => ?_)
    exact q_rv cx hr hP hS hQ h dPa_writeType_33
  unfold f_Pa_writeType at h
  refine lv_iload_n hx hb dPa_writeType_0 rfl (lv_at hl 2 rfl) ?_
  refine lv_bipush (v := 27) hx hb dPa_writeType_1 (by decide) ?_
  refine lv_icmp_lt (tgt := 7) hx hb dPa_writeType_3 (by decide) (fun hc => ?_) (fun hc => ?_)
  · replace h := if_t h hc
    refine lv_lload_n hx hb dPa_writeType_7 rfl (lv_at hl 1 rfl) ?_
    obtain ⟨r5, σ4, h3, h⟩ := bn_some h
    refine q_cSi (rest := []) (As := [.long v1]) cx hP hS hRk (c_Ty_isFrom l g hg h3) Y_Ty_isFrom S_Ty_isFrom t_371 (by omega) rfl hl.1 rfl (Nat.le_of_ble_eq_true rfl) dPa_writeType_8 (fun H locs hP hS => ?_)
    refine lv_if_ne (tgt := 34) hx hb dPa_writeType_11 (by decide) (fun hc => ?_) (fun hc => ?_)
    · replace h := if_f h hc
      refine lv_aload_n hx hb dPa_writeType_34 rfl (lv_at hl 0 rfl) ?_
      refine lv_bipush (v := 60) hx hb dPa_writeType_35 (by decide) ?_
      obtain ⟨rh6, σ7, h6, h⟩ := bn_some h
      refine q_cVv (rest := []) (As := [.int (60 : Int32)]) cx hP hS hRk (c_Pa_writeSign l g hg h6) Y_Pa_writeSign V_Pa_writeSign t_353 (by omega) (by decide) (e_7 g _ _) rfl rfl hl.1 rfl (Nat.le_of_ble_eq_true rfl) dPa_writeType_37 (fun H locs hP hS => ?_)
      refine lv_aload_n hx hb dPa_writeType_40 rfl (lv_at hl 0 rfl) ?_
      refine lv_lload_n hx hb dPa_writeType_41 rfl (lv_at hl 1 rfl) ?_
      obtain ⟨r10, σ9, h8, h⟩ := bn_some h
      refine q_cSl (rest := [.ref (ad g 7)]) (As := [.long v1]) cx hP hS hRk (c_Ty_taken l g hg h8) Y_Ty_taken S_Ty_taken t_376 (by omega) rfl hl.1 rfl (Nat.le_of_ble_eq_true rfl) dPa_writeType_42 (fun H locs hP hS => ?_)
      refine lv_iload_n hx hb dPa_writeType_45 rfl (lv_at hl 2 rfl) ?_
      refine lv_iconst (v := 1) hx hb dPa_writeType_46 (by decide) ?_
      refine lv_iadd hx hb dPa_writeType_47 ?_
      obtain ⟨rh11, σ12, h11, h⟩ := bn_some h
      refine q_cVv (rest := []) (As := [.long r10, .int (v3 + (1 : Int32))]) cx hP hS hRk (hrc h11) Y_Pa_writeType V_Pa_writeType t_367 (by omega) (by decide) (e_7 g _ _) rfl rfl hl.1 rfl (Nat.le_of_ble_eq_true rfl) dPa_writeType_48 (fun H locs hP hS => ?_)
      refine lv_aload_n hx hb dPa_writeType_51 rfl (lv_at hl 0 rfl) ?_
      refine lv_lload_n hx hb dPa_writeType_52 rfl (lv_at hl 1 rfl) ?_
      obtain ⟨r15, σ14, h13, h⟩ := bn_some h
      refine q_cSl (rest := [.ref (ad g 7)]) (As := [.long v1]) cx hP hS hRk (c_Ty_given l g hg h13) Y_Ty_given S_Ty_given t_379 (by omega) rfl hl.1 rfl (Nat.le_of_ble_eq_true rfl) dPa_writeType_53 (fun H locs hP hS => ?_)
      refine lv_iload_n hx hb dPa_writeType_56 rfl (lv_at hl 2 rfl) ?_
      refine lv_iconst (v := 1) hx hb dPa_writeType_57 (by decide) ?_
      refine lv_iadd hx hb dPa_writeType_58 ?_
      obtain ⟨rh16, σ17, h16, h⟩ := bn_some h
      refine q_cVv (rest := []) (As := [.long r15, .int (v3 + (1 : Int32))]) cx hP hS hRk (hrc h16) Y_Pa_writeType V_Pa_writeType t_367 (by omega) (by decide) (e_7 g _ _) rfl rfl hl.1 rfl (Nat.le_of_ble_eq_true rfl) dPa_writeType_59 (fun H locs hP hS => ?_)
      refine lv_aload_n hx hb dPa_writeType_62 rfl (lv_at hl 0 rfl) ?_
      refine lv_bipush (v := 62) hx hb dPa_writeType_63 (by decide) ?_
      obtain ⟨rh18, σ19, h18, h⟩ := bn_some h
      refine q_cVv (rest := []) (As := [.int (62 : Int32)]) cx hP hS hRk (c_Pa_writeSign l g hg h18) Y_Pa_writeSign V_Pa_writeSign t_353 (by omega) (by decide) (e_7 g _ _) rfl rfl hl.1 rfl (Nat.le_of_ble_eq_true rfl) dPa_writeType_65 (fun H locs hP hS => ?_)
      exact q_rv cx hr hP hS hQ h dPa_writeType_68
    · replace h := if_t h hc
      refine lv_aload_n hx hb dPa_writeType_14 rfl (lv_at hl 0 rfl) ?_
      refine lv_lload_n hx hb dPa_writeType_15 rfl (lv_at hl 1 rfl) ?_
      refine lv_ldc2 (own := "TermBench$Page") (index := 83) (v := 2) hx hb hown (hts _ t_375) dPa_writeType_16 ?_
      refine W.lcmp hx hb dPa_writeType_19 ?_
      refine lv_if_ne (tgt := 28) hx hb dPa_writeType_20 (by decide) (fun hc => ?_) (fun hc => ?_)
      · replace h := if_f h hc
        refine lv_bipush (v := 42) hx hb dPa_writeType_28 (by decide) ?_
        exact J30 _ _ _ _ h _ _ _ (lv_sub hl [0, 1, 2] rfl) hP hS
      · replace h := if_t h hc
        refine lv_bipush (v := 35) hx hb dPa_writeType_23 (by decide) ?_
        refine lv_goto (tgt := 30) hx hb dPa_writeType_25 (by decide) ?_
        exact J30 _ _ _ _ h _ _ _ (lv_sub hl [0, 1, 2] rfl) hP hS
  · replace h := if_f h hc
    exact q_rv cx hr hP hS hQ h dPa_writeType_6
def F_Pa_writeType : Nat → Int64 → Int32 → Mem → Option (Unit × Mem)
  | 0 => fun _ _ _ => none
  | n + 1 => fun a0 a1 a2 => f_Pa_writeType (F_Pa_writeType n) a0 a1 a2
theorem C_Pa_writeType (l : Launch) (g : Gw) (hg : wInj g) : ∀ (n : Nat) {v1 : Int64} {v3 : Int32} {σ σ0 : Mem}, F_Pa_writeType n v1 v3 σ = some ((), σ0) → KV l yPa_writeType cPa_writeType 4 none (2 + 1 * n) g [.ref (ad g 7), .long v1, .int v3] σ σ0 := by
  intro n
  induction n with
  | zero => intros; rename_i h; simp [F_Pa_writeType] at h
  | succ n ih =>
    intros
    rename_i h
    exact c_Pa_writeType l g hg (d0 := 2 + 1 * n) (Nat.le_add_right _ _) ih  h
theorem dPa_writeNumber_0 : decode cPa_writeNumber 0 = .ok (.iload_n 1, 1) := by decide +kernel
theorem dPa_writeNumber_1 : decode cPa_writeNumber 1 = .ok (.invokestatic 92, 3) := by decide +kernel
theorem dPa_writeNumber_4 : decode cPa_writeNumber 4 = .ok (.istore_n 2, 1) := by decide +kernel
theorem dPa_writeNumber_5 : decode cPa_writeNumber 5 = .ok (.iload_n 1, 1) := by decide +kernel
theorem dPa_writeNumber_6 : decode cPa_writeNumber 6 = .ok (.ifCond .ge 9, 3) := by decide +kernel
theorem dPa_writeNumber_9 : decode cPa_writeNumber 9 = .ok (.aload_n 0, 1) := by decide +kernel
theorem dPa_writeNumber_10 : decode cPa_writeNumber 10 = .ok (.bipush 45, 2) := by decide +kernel
theorem dPa_writeNumber_12 : decode cPa_writeNumber 12 = .ok (.invokevirtual 56, 3) := by decide +kernel
theorem dPa_writeNumber_15 : decode cPa_writeNumber 15 = .ok (.iload_n 2, 1) := by decide +kernel
theorem dPa_writeNumber_16 : decode cPa_writeNumber 16 = .ok (.bipush 100, 2) := by decide +kernel
theorem dPa_writeNumber_18 : decode cPa_writeNumber 18 = .ok (.if_icmp .lt 14, 3) := by decide +kernel
theorem dPa_writeNumber_21 : decode cPa_writeNumber 21 = .ok (.aload_n 0, 1) := by decide +kernel
theorem dPa_writeNumber_22 : decode cPa_writeNumber 22 = .ok (.bipush 48, 2) := by decide +kernel
theorem dPa_writeNumber_24 : decode cPa_writeNumber 24 = .ok (.iload_n 2, 1) := by decide +kernel
theorem dPa_writeNumber_25 : decode cPa_writeNumber 25 = .ok (.bipush 100, 2) := by decide +kernel
theorem dPa_writeNumber_27 : decode cPa_writeNumber 27 = .ok (.idiv, 1) := by decide +kernel
theorem dPa_writeNumber_28 : decode cPa_writeNumber 28 = .ok (.iadd, 1) := by decide +kernel
theorem dPa_writeNumber_29 : decode cPa_writeNumber 29 = .ok (.invokevirtual 56, 3) := by decide +kernel
theorem dPa_writeNumber_32 : decode cPa_writeNumber 32 = .ok (.iload_n 2, 1) := by decide +kernel
theorem dPa_writeNumber_33 : decode cPa_writeNumber 33 = .ok (.bipush 10, 2) := by decide +kernel
theorem dPa_writeNumber_35 : decode cPa_writeNumber 35 = .ok (.if_icmp .lt 17, 3) := by decide +kernel
theorem dPa_writeNumber_38 : decode cPa_writeNumber 38 = .ok (.aload_n 0, 1) := by decide +kernel
theorem dPa_writeNumber_39 : decode cPa_writeNumber 39 = .ok (.bipush 48, 2) := by decide +kernel
theorem dPa_writeNumber_41 : decode cPa_writeNumber 41 = .ok (.iload_n 2, 1) := by decide +kernel
theorem dPa_writeNumber_42 : decode cPa_writeNumber 42 = .ok (.bipush 10, 2) := by decide +kernel
theorem dPa_writeNumber_44 : decode cPa_writeNumber 44 = .ok (.idiv, 1) := by decide +kernel
theorem dPa_writeNumber_45 : decode cPa_writeNumber 45 = .ok (.bipush 10, 2) := by decide +kernel
theorem dPa_writeNumber_47 : decode cPa_writeNumber 47 = .ok (.irem, 1) := by decide +kernel
theorem dPa_writeNumber_48 : decode cPa_writeNumber 48 = .ok (.iadd, 1) := by decide +kernel
theorem dPa_writeNumber_49 : decode cPa_writeNumber 49 = .ok (.invokevirtual 56, 3) := by decide +kernel
theorem dPa_writeNumber_52 : decode cPa_writeNumber 52 = .ok (.aload_n 0, 1) := by decide +kernel
theorem dPa_writeNumber_53 : decode cPa_writeNumber 53 = .ok (.bipush 48, 2) := by decide +kernel
theorem dPa_writeNumber_55 : decode cPa_writeNumber 55 = .ok (.iload_n 2, 1) := by decide +kernel
theorem dPa_writeNumber_56 : decode cPa_writeNumber 56 = .ok (.bipush 10, 2) := by decide +kernel
theorem dPa_writeNumber_58 : decode cPa_writeNumber 58 = .ok (.irem, 1) := by decide +kernel
theorem dPa_writeNumber_59 : decode cPa_writeNumber 59 = .ok (.iadd, 1) := by decide +kernel
theorem dPa_writeNumber_60 : decode cPa_writeNumber 60 = .ok (.invokevirtual 56, 3) := by decide +kernel
theorem dPa_writeNumber_63 : decode cPa_writeNumber 63 = .ok (.return_, 1) := by decide +kernel
def f_Pa_writeNumber_J52  (v1 : Int32) (v2 : Int32) (σ : Mem) : Option (Unit × Mem) :=
  bn (f_Pa_writeSign ((48 : Int32) + (v2 - v2 / (10 : Int32) * (10 : Int32))) σ) fun (_ : Unit) (σ2 : Mem) =>
  some ((), σ2)
def f_Pa_writeNumber_J32  (v1 : Int32) (v2 : Int32) (σ : Mem) : Option (Unit × Mem) :=
  if v2 < (10 : Int32) then (
  f_Pa_writeNumber_J52 v1 v2 σ)
  else (
  bn (f_Pa_writeSign ((48 : Int32) + ((v2 / (10 : Int32)) - (v2 / (10 : Int32)) / (10 : Int32) * (10 : Int32))) σ) fun (_ : Unit) (σ4 : Mem) =>
  f_Pa_writeNumber_J52 v1 v2 σ4)
def f_Pa_writeNumber_J15  (v1 : Int32) (v2 : Int32) (σ : Mem) : Option (Unit × Mem) :=
  if v2 < (100 : Int32) then (
  f_Pa_writeNumber_J32 v1 v2 σ)
  else (
  bn (f_Pa_writeSign ((48 : Int32) + (v2 / (100 : Int32))) σ) fun (_ : Unit) (σ6 : Mem) =>
  f_Pa_writeNumber_J32 v1 v2 σ6)
def f_Pa_writeNumber  (v1 : Int32) (σ : Mem) : Option (Unit × Mem) :=
  lt_ (if 0 ≤ v1 then v1 else 0 - v1) fun (x7 : Int32) =>
  if 0 ≤ v1 then (
  f_Pa_writeNumber_J15 v1 x7 σ)
  else (
  bn (f_Pa_writeSign (45 : Int32) σ) fun (_ : Unit) (σ9 : Mem) =>
  f_Pa_writeNumber_J15 v1 x7 σ9)
set_option maxHeartbeats 4000000 in
set_option maxRecDepth 100000 in
theorem c_Pa_writeNumber (l : Launch) (g : Gw) (hg : wInj g) {v1 : Int32} {σ σ0 : Mem} (h : f_Pa_writeNumber v1 σ = some ((), σ0)) : KV l yPa_writeNumber cPa_writeNumber 3 none 1 g [.ref (ad g 7), .int v1] σ σ0 := by
  refine q_met g hg (own := "TermBench$Page") rfl rfl (Nat.le_of_ble_eq_true rfl) (fun p e s m args below meth c R Q cx hRk hr hQ H locs ls hP hS hl => ?_)
  have hx := cx.1
  have hb := cx.2.1
  have hown := cx.2.2.2.1
  have hts := cx.2.2.2.2.1
  have hl : lv_has ls 3 [(0, .ref (ad g 7)), (1, .int v1)] := hl
  have J52 : ∀ (v1 : Int32) (v2 : Int32) (σ : Mem), f_Pa_writeNumber_J52 v1 v2 σ = some ((), σ0) → ∀ (H : Heap) (locs : List Loc) (ls : Array Slot), lv_has ls 3 [(0, .ref (ad g 7)), (1, .int v1), (2, .int v2)] → Wd g σ H → va_S (wA g) s.heap H locs → W p l e R s m args below meth c H locs 0 0 Q (F0 m 52 ls []) := by
    intro v1 v2 σ h H locs ls hl hP hS
    unfold f_Pa_writeNumber_J52 at h
    refine lv_aload_n hx hb dPa_writeNumber_52 rfl (lv_at hl 0 rfl) ?_
    refine lv_bipush (v := 48) hx hb dPa_writeNumber_53 (by decide) ?_
    refine lv_iload_n hx hb dPa_writeNumber_55 rfl (lv_at hl 2 rfl) ?_
    refine lv_bipush (v := 10) hx hb dPa_writeNumber_56 (by decide) ?_
    refine lv_irem hx hb dPa_writeNumber_58 (by decide) ?_
    refine lv_iadd hx hb dPa_writeNumber_59 ?_
    obtain ⟨rh1, σ2, h1, h⟩ := bn_some h
    refine q_cVv (rest := []) (As := [.int ((48 : Int32) + (v2 - v2 / (10 : Int32) * (10 : Int32)))]) cx hP hS hRk (c_Pa_writeSign l g hg h1) Y_Pa_writeSign V_Pa_writeSign t_353 (by decide) (by decide) (e_7 g _ _) rfl rfl hl.1 rfl (Nat.le_of_ble_eq_true rfl) dPa_writeNumber_60 (fun H locs hP hS => ?_)
    exact q_rv cx hr hP hS hQ h dPa_writeNumber_63
  have J32 : ∀ (v1 : Int32) (v2 : Int32) (σ : Mem), f_Pa_writeNumber_J32 v1 v2 σ = some ((), σ0) → ∀ (H : Heap) (locs : List Loc) (ls : Array Slot), lv_has ls 3 [(0, .ref (ad g 7)), (1, .int v1), (2, .int v2)] → Wd g σ H → va_S (wA g) s.heap H locs → W p l e R s m args below meth c H locs 0 0 Q (F0 m 32 ls []) := by
    intro v1 v2 σ h H locs ls hl hP hS
    unfold f_Pa_writeNumber_J32 at h
    refine lv_iload_n hx hb dPa_writeNumber_32 rfl (lv_at hl 2 rfl) ?_
    refine lv_bipush (v := 10) hx hb dPa_writeNumber_33 (by decide) ?_
    refine lv_icmp_lt (tgt := 52) hx hb dPa_writeNumber_35 (by decide) (fun hc => ?_) (fun hc => ?_)
    · replace h := if_t h hc
      exact J52 _ _ _ h _ _ _ (lv_sub hl [0, 1, 2] rfl) hP hS
    · replace h := if_f h hc
      refine lv_aload_n hx hb dPa_writeNumber_38 rfl (lv_at hl 0 rfl) ?_
      refine lv_bipush (v := 48) hx hb dPa_writeNumber_39 (by decide) ?_
      refine lv_iload_n hx hb dPa_writeNumber_41 rfl (lv_at hl 2 rfl) ?_
      refine lv_bipush (v := 10) hx hb dPa_writeNumber_42 (by decide) ?_
      refine lv_idiv hx hb dPa_writeNumber_44 (by decide) ?_
      refine lv_bipush (v := 10) hx hb dPa_writeNumber_45 (by decide) ?_
      refine lv_irem hx hb dPa_writeNumber_47 (by decide) ?_
      refine lv_iadd hx hb dPa_writeNumber_48 ?_
      obtain ⟨rh3, σ4, h3, h⟩ := bn_some h
      refine q_cVv (rest := []) (As := [.int ((48 : Int32) + ((v2 / (10 : Int32)) - (v2 / (10 : Int32)) / (10 : Int32) * (10 : Int32)))]) cx hP hS hRk (c_Pa_writeSign l g hg h3) Y_Pa_writeSign V_Pa_writeSign t_353 (by decide) (by decide) (e_7 g _ _) rfl rfl hl.1 rfl (Nat.le_of_ble_eq_true rfl) dPa_writeNumber_49 (fun H locs hP hS => ?_)
      exact J52 _ _ _ h _ _ _ (lv_sub hl [0, 1, 2] rfl) hP hS
  have J15 : ∀ (v1 : Int32) (v2 : Int32) (σ : Mem), f_Pa_writeNumber_J15 v1 v2 σ = some ((), σ0) → ∀ (H : Heap) (locs : List Loc) (ls : Array Slot), lv_has ls 3 [(0, .ref (ad g 7)), (1, .int v1), (2, .int v2)] → Wd g σ H → va_S (wA g) s.heap H locs → W p l e R s m args below meth c H locs 0 0 Q (F0 m 15 ls []) := by
    intro v1 v2 σ h H locs ls hl hP hS
    unfold f_Pa_writeNumber_J15 at h
    refine lv_iload_n hx hb dPa_writeNumber_15 rfl (lv_at hl 2 rfl) ?_
    refine lv_bipush (v := 100) hx hb dPa_writeNumber_16 (by decide) ?_
    refine lv_icmp_lt (tgt := 32) hx hb dPa_writeNumber_18 (by decide) (fun hc => ?_) (fun hc => ?_)
    · replace h := if_t h hc
      exact J32 _ _ _ h _ _ _ (lv_sub hl [0, 1, 2] rfl) hP hS
    · replace h := if_f h hc
      refine lv_aload_n hx hb dPa_writeNumber_21 rfl (lv_at hl 0 rfl) ?_
      refine lv_bipush (v := 48) hx hb dPa_writeNumber_22 (by decide) ?_
      refine lv_iload_n hx hb dPa_writeNumber_24 rfl (lv_at hl 2 rfl) ?_
      refine lv_bipush (v := 100) hx hb dPa_writeNumber_25 (by decide) ?_
      refine lv_idiv hx hb dPa_writeNumber_27 (by decide) ?_
      refine lv_iadd hx hb dPa_writeNumber_28 ?_
      obtain ⟨rh5, σ6, h5, h⟩ := bn_some h
      refine q_cVv (rest := []) (As := [.int ((48 : Int32) + (v2 / (100 : Int32)))]) cx hP hS hRk (c_Pa_writeSign l g hg h5) Y_Pa_writeSign V_Pa_writeSign t_353 (by decide) (by decide) (e_7 g _ _) rfl rfl hl.1 rfl (Nat.le_of_ble_eq_true rfl) dPa_writeNumber_29 (fun H locs hP hS => ?_)
      exact J32 _ _ _ h _ _ _ (lv_sub hl [0, 1, 2] rfl) hP hS
  unfold f_Pa_writeNumber at h
  refine lv_iload_n hx hb dPa_writeNumber_0 rfl (lv_at hl 1 rfl) ?_
  refine q_abs cx hRk t_350 N_abs (by omega) hl.1 (Nat.le_of_ble_eq_true rfl) dPa_writeNumber_1 ?_
  obtain ⟨x7, ex7, h⟩ := lt_some h
  refine q_nmi ex7 ?_
  refine lv_istore_n (lv' := [(2, .int x7), (0, .ref (ad g 7)), (1, .int v1)]) hx hb dPa_writeNumber_4 rfl hl (Nat.le_of_ble_eq_true rfl) rfl (fun ls hl => ?_)
  refine lv_iload_n hx hb dPa_writeNumber_5 rfl (lv_at hl 2 rfl) ?_
  refine lv_if_ge (tgt := 15) hx hb dPa_writeNumber_6 (by decide) (fun hc => ?_) (fun hc => ?_)
  · replace h := if_t h hc
    exact J15 _ _ _ h _ _ _ (lv_sub hl [1, 2, 0] rfl) hP hS
  · replace h := if_f h hc
    refine lv_aload_n hx hb dPa_writeNumber_9 rfl (lv_at hl 1 rfl) ?_
    refine lv_bipush (v := 45) hx hb dPa_writeNumber_10 (by decide) ?_
    obtain ⟨rh8, σ9, h8, h⟩ := bn_some h
    refine q_cVv (rest := []) (As := [.int (45 : Int32)]) cx hP hS hRk (c_Pa_writeSign l g hg h8) Y_Pa_writeSign V_Pa_writeSign t_353 (by decide) (by decide) (e_7 g _ _) rfl rfl hl.1 rfl (Nat.le_of_ble_eq_true rfl) dPa_writeNumber_12 (fun H locs hP hS => ?_)
    exact J15 _ _ _ h _ _ _ (lv_sub hl [1, 2, 0] rfl) hP hS
theorem dPa_writeWithParts_0 : decode cPa_writeWithParts 0 = .ok (.aload_n 1, 1) := by decide +kernel
theorem dPa_writeWithParts_1 : decode cPa_writeWithParts 1 = .ok (.iload_n 2, 1) := by decide +kernel
theorem dPa_writeWithParts_2 : decode cPa_writeWithParts 2 = .ok (.iconst 0, 1) := by decide +kernel
theorem dPa_writeWithParts_3 : decode cPa_writeWithParts 3 = .ok (.invokevirtual 63, 3) := by decide +kernel
theorem dPa_writeWithParts_6 : decode cPa_writeWithParts 6 = .ok (.istore 4, 2) := by decide +kernel
theorem dPa_writeWithParts_8 : decode cPa_writeWithParts 8 = .ok (.aload_n 1, 1) := by decide +kernel
theorem dPa_writeWithParts_9 : decode cPa_writeWithParts 9 = .ok (.iload_n 2, 1) := by decide +kernel
theorem dPa_writeWithParts_10 : decode cPa_writeWithParts 10 = .ok (.iconst 1, 1) := by decide +kernel
theorem dPa_writeWithParts_11 : decode cPa_writeWithParts 11 = .ok (.invokevirtual 63, 3) := by decide +kernel
theorem dPa_writeWithParts_14 : decode cPa_writeWithParts 14 = .ok (.istore 5, 2) := by decide +kernel
theorem dPa_writeWithParts_16 : decode cPa_writeWithParts 16 = .ok (.aload_n 1, 1) := by decide +kernel
theorem dPa_writeWithParts_17 : decode cPa_writeWithParts 17 = .ok (.getfield 40, 3) := by decide +kernel
theorem dPa_writeWithParts_20 : decode cPa_writeWithParts 20 = .ok (.iload_n 2, 1) := by decide +kernel
theorem dPa_writeWithParts_21 : decode cPa_writeWithParts 21 = .ok (.iaload, 1) := by decide +kernel
theorem dPa_writeWithParts_22 : decode cPa_writeWithParts 22 = .ok (.tableswitch 154 3 5 #[26, 67, 102], 26) := by decide +kernel
theorem dPa_writeWithParts_48 : decode cPa_writeWithParts 48 = .ok (.aload_n 0, 1) := by decide +kernel
theorem dPa_writeWithParts_49 : decode cPa_writeWithParts 49 = .ok (.bipush 40, 2) := by decide +kernel
theorem dPa_writeWithParts_51 : decode cPa_writeWithParts 51 = .ok (.invokevirtual 56, 3) := by decide +kernel
theorem dPa_writeWithParts_54 : decode cPa_writeWithParts 54 = .ok (.aload_n 0, 1) := by decide +kernel
theorem dPa_writeWithParts_55 : decode cPa_writeWithParts 55 = .ok (.aload_n 1, 1) := by decide +kernel
theorem dPa_writeWithParts_56 : decode cPa_writeWithParts 56 = .ok (.iload 4, 2) := by decide +kernel
theorem dPa_writeWithParts_58 : decode cPa_writeWithParts 58 = .ok (.iload_n 3, 1) := by decide +kernel
theorem dPa_writeWithParts_59 : decode cPa_writeWithParts 59 = .ok (.iconst 1, 1) := by decide +kernel
theorem dPa_writeWithParts_60 : decode cPa_writeWithParts 60 = .ok (.iadd, 1) := by decide +kernel
theorem dPa_writeWithParts_61 : decode cPa_writeWithParts 61 = .ok (.invokevirtual 67, 3) := by decide +kernel
theorem dPa_writeWithParts_64 : decode cPa_writeWithParts 64 = .ok (.aload_n 0, 1) := by decide +kernel
theorem dPa_writeWithParts_65 : decode cPa_writeWithParts 65 = .ok (.bipush 43, 2) := by decide +kernel
theorem dPa_writeWithParts_67 : decode cPa_writeWithParts 67 = .ok (.invokevirtual 56, 3) := by decide +kernel
theorem dPa_writeWithParts_70 : decode cPa_writeWithParts 70 = .ok (.aload_n 0, 1) := by decide +kernel
theorem dPa_writeWithParts_71 : decode cPa_writeWithParts 71 = .ok (.aload_n 1, 1) := by decide +kernel
theorem dPa_writeWithParts_72 : decode cPa_writeWithParts 72 = .ok (.iload 5, 2) := by decide +kernel
theorem dPa_writeWithParts_74 : decode cPa_writeWithParts 74 = .ok (.iload_n 3, 1) := by decide +kernel
theorem dPa_writeWithParts_75 : decode cPa_writeWithParts 75 = .ok (.iconst 1, 1) := by decide +kernel
theorem dPa_writeWithParts_76 : decode cPa_writeWithParts 76 = .ok (.iadd, 1) := by decide +kernel
theorem dPa_writeWithParts_77 : decode cPa_writeWithParts 77 = .ok (.invokevirtual 67, 3) := by decide +kernel
theorem dPa_writeWithParts_80 : decode cPa_writeWithParts 80 = .ok (.aload_n 0, 1) := by decide +kernel
theorem dPa_writeWithParts_81 : decode cPa_writeWithParts 81 = .ok (.bipush 41, 2) := by decide +kernel
theorem dPa_writeWithParts_83 : decode cPa_writeWithParts 83 = .ok (.invokevirtual 56, 3) := by decide +kernel
theorem dPa_writeWithParts_86 : decode cPa_writeWithParts 86 = .ok (.goto 129, 3) := by decide +kernel
theorem dPa_writeWithParts_89 : decode cPa_writeWithParts 89 = .ok (.aload_n 0, 1) := by decide +kernel
theorem dPa_writeWithParts_90 : decode cPa_writeWithParts 90 = .ok (.aload_n 1, 1) := by decide +kernel
theorem dPa_writeWithParts_91 : decode cPa_writeWithParts 91 = .ok (.iload 4, 2) := by decide +kernel
theorem dPa_writeWithParts_93 : decode cPa_writeWithParts 93 = .ok (.iload_n 3, 1) := by decide +kernel
theorem dPa_writeWithParts_94 : decode cPa_writeWithParts 94 = .ok (.iconst 1, 1) := by decide +kernel
theorem dPa_writeWithParts_95 : decode cPa_writeWithParts 95 = .ok (.iadd, 1) := by decide +kernel
theorem dPa_writeWithParts_96 : decode cPa_writeWithParts 96 = .ok (.invokevirtual 67, 3) := by decide +kernel
theorem dPa_writeWithParts_99 : decode cPa_writeWithParts 99 = .ok (.aload_n 0, 1) := by decide +kernel
theorem dPa_writeWithParts_100 : decode cPa_writeWithParts 100 = .ok (.bipush 40, 2) := by decide +kernel
theorem dPa_writeWithParts_102 : decode cPa_writeWithParts 102 = .ok (.invokevirtual 56, 3) := by decide +kernel
theorem dPa_writeWithParts_105 : decode cPa_writeWithParts 105 = .ok (.aload_n 0, 1) := by decide +kernel
theorem dPa_writeWithParts_106 : decode cPa_writeWithParts 106 = .ok (.aload_n 1, 1) := by decide +kernel
theorem dPa_writeWithParts_107 : decode cPa_writeWithParts 107 = .ok (.iload 5, 2) := by decide +kernel
theorem dPa_writeWithParts_109 : decode cPa_writeWithParts 109 = .ok (.iload_n 3, 1) := by decide +kernel
theorem dPa_writeWithParts_110 : decode cPa_writeWithParts 110 = .ok (.iconst 1, 1) := by decide +kernel
theorem dPa_writeWithParts_111 : decode cPa_writeWithParts 111 = .ok (.iadd, 1) := by decide +kernel
theorem dPa_writeWithParts_112 : decode cPa_writeWithParts 112 = .ok (.invokevirtual 67, 3) := by decide +kernel
theorem dPa_writeWithParts_115 : decode cPa_writeWithParts 115 = .ok (.aload_n 0, 1) := by decide +kernel
theorem dPa_writeWithParts_116 : decode cPa_writeWithParts 116 = .ok (.bipush 41, 2) := by decide +kernel
theorem dPa_writeWithParts_118 : decode cPa_writeWithParts 118 = .ok (.invokevirtual 56, 3) := by decide +kernel
theorem dPa_writeWithParts_121 : decode cPa_writeWithParts 121 = .ok (.goto 94, 3) := by decide +kernel
theorem dPa_writeWithParts_124 : decode cPa_writeWithParts 124 = .ok (.aload_n 0, 1) := by decide +kernel
theorem dPa_writeWithParts_125 : decode cPa_writeWithParts 125 = .ok (.bipush 91, 2) := by decide +kernel
theorem dPa_writeWithParts_127 : decode cPa_writeWithParts 127 = .ok (.invokevirtual 56, 3) := by decide +kernel
theorem dPa_writeWithParts_130 : decode cPa_writeWithParts 130 = .ok (.aload_n 0, 1) := by decide +kernel
theorem dPa_writeWithParts_131 : decode cPa_writeWithParts 131 = .ok (.aload_n 1, 1) := by decide +kernel
theorem dPa_writeWithParts_132 : decode cPa_writeWithParts 132 = .ok (.getfield 46, 3) := by decide +kernel
theorem dPa_writeWithParts_135 : decode cPa_writeWithParts 135 = .ok (.iload_n 2, 1) := by decide +kernel
theorem dPa_writeWithParts_136 : decode cPa_writeWithParts 136 = .ok (.iaload, 1) := by decide +kernel
theorem dPa_writeWithParts_137 : decode cPa_writeWithParts 137 = .ok (.invokevirtual 53, 3) := by decide +kernel
theorem dPa_writeWithParts_140 : decode cPa_writeWithParts 140 = .ok (.aload_n 0, 1) := by decide +kernel
theorem dPa_writeWithParts_141 : decode cPa_writeWithParts 141 = .ok (.bipush 58, 2) := by decide +kernel
theorem dPa_writeWithParts_143 : decode cPa_writeWithParts 143 = .ok (.invokevirtual 56, 3) := by decide +kernel
theorem dPa_writeWithParts_146 : decode cPa_writeWithParts 146 = .ok (.aload_n 0, 1) := by decide +kernel
theorem dPa_writeWithParts_147 : decode cPa_writeWithParts 147 = .ok (.aload_n 1, 1) := by decide +kernel
theorem dPa_writeWithParts_148 : decode cPa_writeWithParts 148 = .ok (.getfield 70, 3) := by decide +kernel
theorem dPa_writeWithParts_151 : decode cPa_writeWithParts 151 = .ok (.iload_n 2, 1) := by decide +kernel
theorem dPa_writeWithParts_152 : decode cPa_writeWithParts 152 = .ok (.laload, 1) := by decide +kernel
theorem dPa_writeWithParts_153 : decode cPa_writeWithParts 153 = .ok (.iconst 0, 1) := by decide +kernel
theorem dPa_writeWithParts_154 : decode cPa_writeWithParts 154 = .ok (.invokevirtual 73, 3) := by decide +kernel
theorem dPa_writeWithParts_157 : decode cPa_writeWithParts 157 = .ok (.aload_n 0, 1) := by decide +kernel
theorem dPa_writeWithParts_158 : decode cPa_writeWithParts 158 = .ok (.aload_n 1, 1) := by decide +kernel
theorem dPa_writeWithParts_159 : decode cPa_writeWithParts 159 = .ok (.iload 4, 2) := by decide +kernel
theorem dPa_writeWithParts_161 : decode cPa_writeWithParts 161 = .ok (.iload_n 3, 1) := by decide +kernel
theorem dPa_writeWithParts_162 : decode cPa_writeWithParts 162 = .ok (.iconst 1, 1) := by decide +kernel
theorem dPa_writeWithParts_163 : decode cPa_writeWithParts 163 = .ok (.iadd, 1) := by decide +kernel
theorem dPa_writeWithParts_164 : decode cPa_writeWithParts 164 = .ok (.invokevirtual 67, 3) := by decide +kernel
theorem dPa_writeWithParts_167 : decode cPa_writeWithParts 167 = .ok (.aload_n 0, 1) := by decide +kernel
theorem dPa_writeWithParts_168 : decode cPa_writeWithParts 168 = .ok (.bipush 93, 2) := by decide +kernel
theorem dPa_writeWithParts_170 : decode cPa_writeWithParts 170 = .ok (.invokevirtual 56, 3) := by decide +kernel
theorem dPa_writeWithParts_173 : decode cPa_writeWithParts 173 = .ok (.goto 42, 3) := by decide +kernel
theorem dPa_writeWithParts_176 : decode cPa_writeWithParts 176 = .ok (.aload_n 0, 1) := by decide +kernel
theorem dPa_writeWithParts_177 : decode cPa_writeWithParts 177 = .ok (.bipush 123, 2) := by decide +kernel
theorem dPa_writeWithParts_179 : decode cPa_writeWithParts 179 = .ok (.invokevirtual 56, 3) := by decide +kernel
theorem dPa_writeWithParts_182 : decode cPa_writeWithParts 182 = .ok (.aload_n 0, 1) := by decide +kernel
theorem dPa_writeWithParts_183 : decode cPa_writeWithParts 183 = .ok (.aload_n 1, 1) := by decide +kernel
theorem dPa_writeWithParts_184 : decode cPa_writeWithParts 184 = .ok (.iload 4, 2) := by decide +kernel
theorem dPa_writeWithParts_186 : decode cPa_writeWithParts 186 = .ok (.iload_n 3, 1) := by decide +kernel
theorem dPa_writeWithParts_187 : decode cPa_writeWithParts 187 = .ok (.iconst 1, 1) := by decide +kernel
theorem dPa_writeWithParts_188 : decode cPa_writeWithParts 188 = .ok (.iadd, 1) := by decide +kernel
theorem dPa_writeWithParts_189 : decode cPa_writeWithParts 189 = .ok (.invokevirtual 67, 3) := by decide +kernel
theorem dPa_writeWithParts_192 : decode cPa_writeWithParts 192 = .ok (.aload_n 0, 1) := by decide +kernel
theorem dPa_writeWithParts_193 : decode cPa_writeWithParts 193 = .ok (.bipush 58, 2) := by decide +kernel
theorem dPa_writeWithParts_195 : decode cPa_writeWithParts 195 = .ok (.invokevirtual 56, 3) := by decide +kernel
theorem dPa_writeWithParts_198 : decode cPa_writeWithParts 198 = .ok (.aload_n 0, 1) := by decide +kernel
theorem dPa_writeWithParts_199 : decode cPa_writeWithParts 199 = .ok (.aload_n 1, 1) := by decide +kernel
theorem dPa_writeWithParts_200 : decode cPa_writeWithParts 200 = .ok (.getfield 70, 3) := by decide +kernel
theorem dPa_writeWithParts_203 : decode cPa_writeWithParts 203 = .ok (.iload_n 2, 1) := by decide +kernel
theorem dPa_writeWithParts_204 : decode cPa_writeWithParts 204 = .ok (.laload, 1) := by decide +kernel
theorem dPa_writeWithParts_205 : decode cPa_writeWithParts 205 = .ok (.iconst 0, 1) := by decide +kernel
theorem dPa_writeWithParts_206 : decode cPa_writeWithParts 206 = .ok (.invokevirtual 73, 3) := by decide +kernel
theorem dPa_writeWithParts_209 : decode cPa_writeWithParts 209 = .ok (.aload_n 0, 1) := by decide +kernel
theorem dPa_writeWithParts_210 : decode cPa_writeWithParts 210 = .ok (.bipush 125, 2) := by decide +kernel
theorem dPa_writeWithParts_212 : decode cPa_writeWithParts 212 = .ok (.invokevirtual 56, 3) := by decide +kernel
theorem dPa_writeWithParts_215 : decode cPa_writeWithParts 215 = .ok (.return_, 1) := by decide +kernel
def f_Pa_writeWithParts (rc : Nat → Int32 → Int32 → Mem → Option (Unit × Mem)) (i : Nat) (v2 : Int32) (v3 : Int32) (σ : Mem) : Option (Unit × Mem) :=
  bn (f_Pr_part i v2 (0 : Int32) σ) fun (r3 : Int32) (σ2 : Mem) =>
  bn (f_Pr_part i v2 (1 : Int32) σ2) fun (r6 : Int32) (σ5 : Mem) =>
  gd (inb v2 40) (
  if (σ5.1 (cPk i) v2.toNatClampNeg) = (3 : Int32) then (
  bn (f_Pa_writeSign (40 : Int32) σ5) fun (_ : Unit) (σ9 : Mem) =>
  bn (rc i r3 (v3 + (1 : Int32)) σ9) fun (_ : Unit) (σ11 : Mem) =>
  bn (f_Pa_writeSign (43 : Int32) σ11) fun (_ : Unit) (σ13 : Mem) =>
  bn (rc i r6 (v3 + (1 : Int32)) σ13) fun (_ : Unit) (σ15 : Mem) =>
  bn (f_Pa_writeSign (41 : Int32) σ15) fun (_ : Unit) (σ17 : Mem) =>
  some ((), σ17))
  else (
  if (σ5.1 (cPk i) v2.toNatClampNeg) = (4 : Int32) then (
  bn (rc i r3 (v3 + (1 : Int32)) σ5) fun (_ : Unit) (σ19 : Mem) =>
  bn (f_Pa_writeSign (40 : Int32) σ19) fun (_ : Unit) (σ21 : Mem) =>
  bn (rc i r6 (v3 + (1 : Int32)) σ21) fun (_ : Unit) (σ23 : Mem) =>
  bn (f_Pa_writeSign (41 : Int32) σ23) fun (_ : Unit) (σ25 : Mem) =>
  some ((), σ25))
  else (
  if (σ5.1 (cPk i) v2.toNatClampNeg) = (5 : Int32) then (
  bn (f_Pa_writeSign (91 : Int32) σ5) fun (_ : Unit) (σ27 : Mem) =>
  gd (inb v2 40) (
  bn (f_Pa_writeName (σ27.1 (cPf i) v2.toNatClampNeg) σ27) fun (_ : Unit) (σ30 : Mem) =>
  bn (f_Pa_writeSign (58 : Int32) σ30) fun (_ : Unit) (σ32 : Mem) =>
  gd (inb v2 40) (
  bn (F_Pa_writeType 28 (σ32.2 (cPt i) v2.toNatClampNeg) (0 : Int32) σ32) fun (_ : Unit) (σ35 : Mem) =>
  bn (rc i r3 (v3 + (1 : Int32)) σ35) fun (_ : Unit) (σ37 : Mem) =>
  bn (f_Pa_writeSign (93 : Int32) σ37) fun (_ : Unit) (σ39 : Mem) =>
  some ((), σ39))))
  else (
  bn (f_Pa_writeSign (123 : Int32) σ5) fun (_ : Unit) (σ41 : Mem) =>
  bn (rc i r3 (v3 + (1 : Int32)) σ41) fun (_ : Unit) (σ43 : Mem) =>
  bn (f_Pa_writeSign (58 : Int32) σ43) fun (_ : Unit) (σ45 : Mem) =>
  gd (inb v2 40) (
  bn (F_Pa_writeType 28 (σ45.2 (cPt i) v2.toNatClampNeg) (0 : Int32) σ45) fun (_ : Unit) (σ48 : Mem) =>
  bn (f_Pa_writeSign (125 : Int32) σ48) fun (_ : Unit) (σ50 : Mem) =>
  some ((), σ50))))))
set_option maxHeartbeats 4000000 in
set_option maxRecDepth 100000 in
theorem c_Pa_writeWithParts (l : Launch) (g : Gw) (hg : wInj g) {rc : Nat → Int32 → Int32 → Mem → Option (Unit × Mem)} {d0 : Nat} (hd0 : 31 ≤ d0) (hrc : ∀ {i : Nat} (hi : i < 17) {v2 : Int32} {v3 : Int32} {σ σ0 : Mem}, rc i v2 v3 σ = some ((), σ0) → KV l yPa_writeTerm cPa_writeTerm 4 none d0 g [.ref (ad g 7), .ref (ad g (cP i)), .int v2, .int v3] σ σ0) {i : Nat} (hi : i < 17) {v2 : Int32} {v3 : Int32} {σ σ0 : Mem} (h : f_Pa_writeWithParts rc i v2 v3 σ = some ((), σ0)) : KV l yPa_writeWithParts cPa_writeWithParts 6 none (d0 + 1) g [.ref (ad g 7), .ref (ad g (cP i)), .int v2, .int v3] σ σ0 := by
  refine q_met g hg (own := "TermBench$Page") rfl rfl (Nat.le_of_ble_eq_true rfl) (fun p e s m args below meth c R Q cx hRk hr hQ H locs ls hP hS hl => ?_)
  have hx := cx.1
  have hb := cx.2.1
  have hown := cx.2.2.2.1
  have hts := cx.2.2.2.2.1
  have hl : lv_has ls 6 [(0, .ref (ad g 7)), (1, .ref (ad g (cP i))), (2, .int v2), (3, .int v3)] := hl
  unfold f_Pa_writeWithParts at h
  refine lv_aload_n hx hb dPa_writeWithParts_0 rfl (lv_at hl 1 rfl) ?_
  refine lv_iload_n hx hb dPa_writeWithParts_1 rfl (lv_at hl 2 rfl) ?_
  refine lv_iconst (v := 0) hx hb dPa_writeWithParts_2 (by decide) ?_
  obtain ⟨r3, σ2, h1, h⟩ := bn_some h
  refine q_cVi (rest := []) (As := [.int v2, .int (0 : Int32)]) cx hP hS hRk (c_Pr_part l g hg hi h1) Y_Pr_part V_Pr_part t_365 (by omega) (l_cP hi) (e_cP g hi _ _) rfl rfl hl.1 rfl (Nat.le_of_ble_eq_true rfl) dPa_writeWithParts_3 (fun H locs hP hS => ?_)
  refine lv_istore (lv' := [(4, .int r3), (0, .ref (ad g 7)), (1, .ref (ad g (cP i))), (2, .int v2), (3, .int v3)]) hx hb dPa_writeWithParts_6 hl (Nat.le_of_ble_eq_true rfl) rfl (fun ls hl => ?_)
  refine lv_aload_n hx hb dPa_writeWithParts_8 rfl (lv_at hl 2 rfl) ?_
  refine lv_iload_n hx hb dPa_writeWithParts_9 rfl (lv_at hl 3 rfl) ?_
  refine lv_iconst (v := 1) hx hb dPa_writeWithParts_10 (by decide) ?_
  obtain ⟨r6, σ5, h4, h⟩ := bn_some h
  refine q_cVi (rest := []) (As := [.int v2, .int (1 : Int32)]) cx hP hS hRk (c_Pr_part l g hg hi h4) Y_Pr_part V_Pr_part t_365 (by omega) (l_cP hi) (e_cP g hi _ _) rfl rfl hl.1 rfl (Nat.le_of_ble_eq_true rfl) dPa_writeWithParts_11 (fun H locs hP hS => ?_)
  refine lv_istore (lv' := [(5, .int r6), (4, .int r3), (0, .ref (ad g 7)), (1, .ref (ad g (cP i))), (2, .int v2), (3, .int v3)]) hx hb dPa_writeWithParts_14 hl (Nat.le_of_ble_eq_true rfl) rfl (fun ls hl => ?_)
  refine lv_aload_n hx hb dPa_writeWithParts_16 rfl (lv_at hl 3 rfl) ?_
  refine g_Pr_kinds cx hP hi  t_35 dPa_writeWithParts_17 ?_
  refine lv_iload_n hx hb dPa_writeWithParts_20 rfl (lv_at hl 4 rfl) ?_
  obtain ⟨b7, h⟩ := gd_some h
  refine q_iald cx hP (l_cPk hi) (e_cPk g hi) b7 dPa_writeWithParts_21 ?_
  rcases Decidable.em (σ5.1 (cPk i) v2.toNatClampNeg = (3 : Int32)) with hc3 | hc3
  · replace h := if_t h hc3
    refine lv_tableIn (tgt := 48) hx hb dPa_writeWithParts_22 (by rw [hc3]; decide) (by rw [hc3]; decide) (by rw [hc3]; rfl) (by decide) ?_
    refine lv_aload_n hx hb dPa_writeWithParts_48 rfl (lv_at hl 2 rfl) ?_
    refine lv_bipush (v := 40) hx hb dPa_writeWithParts_49 (by decide) ?_
    obtain ⟨rh8, σ9, h8, h⟩ := bn_some h
    refine q_cVv (rest := []) (As := [.int (40 : Int32)]) cx hP hS hRk (c_Pa_writeSign l g hg h8) Y_Pa_writeSign V_Pa_writeSign t_353 (by omega) (by decide) (e_7 g _ _) rfl rfl hl.1 rfl (Nat.le_of_ble_eq_true rfl) dPa_writeWithParts_51 (fun H locs hP hS => ?_)
    refine lv_aload_n hx hb dPa_writeWithParts_54 rfl (lv_at hl 2 rfl) ?_
    refine lv_aload_n hx hb dPa_writeWithParts_55 rfl (lv_at hl 3 rfl) ?_
    refine lv_iload hx hb dPa_writeWithParts_56 (lv_at hl 1 rfl) ?_
    refine lv_iload_n hx hb dPa_writeWithParts_58 rfl (lv_at hl 5 rfl) ?_
    refine lv_iconst (v := 1) hx hb dPa_writeWithParts_59 (by decide) ?_
    refine lv_iadd hx hb dPa_writeWithParts_60 ?_
    obtain ⟨rh10, σ11, h10, h⟩ := bn_some h
    refine q_cVv (rest := []) (As := [.ref (ad g (cP i)), .int r3, .int (v3 + (1 : Int32))]) cx hP hS hRk (hrc hi h10) Y_Pa_writeTerm V_Pa_writeTerm t_366 (by omega) (by decide) (e_7 g _ _) rfl rfl hl.1 rfl (Nat.le_of_ble_eq_true rfl) dPa_writeWithParts_61 (fun H locs hP hS => ?_)
    refine lv_aload_n hx hb dPa_writeWithParts_64 rfl (lv_at hl 2 rfl) ?_
    refine lv_bipush (v := 43) hx hb dPa_writeWithParts_65 (by decide) ?_
    obtain ⟨rh12, σ13, h12, h⟩ := bn_some h
    refine q_cVv (rest := []) (As := [.int (43 : Int32)]) cx hP hS hRk (c_Pa_writeSign l g hg h12) Y_Pa_writeSign V_Pa_writeSign t_353 (by omega) (by decide) (e_7 g _ _) rfl rfl hl.1 rfl (Nat.le_of_ble_eq_true rfl) dPa_writeWithParts_67 (fun H locs hP hS => ?_)
    refine lv_aload_n hx hb dPa_writeWithParts_70 rfl (lv_at hl 2 rfl) ?_
    refine lv_aload_n hx hb dPa_writeWithParts_71 rfl (lv_at hl 3 rfl) ?_
    refine lv_iload hx hb dPa_writeWithParts_72 (lv_at hl 0 rfl) ?_
    refine lv_iload_n hx hb dPa_writeWithParts_74 rfl (lv_at hl 5 rfl) ?_
    refine lv_iconst (v := 1) hx hb dPa_writeWithParts_75 (by decide) ?_
    refine lv_iadd hx hb dPa_writeWithParts_76 ?_
    obtain ⟨rh14, σ15, h14, h⟩ := bn_some h
    refine q_cVv (rest := []) (As := [.ref (ad g (cP i)), .int r6, .int (v3 + (1 : Int32))]) cx hP hS hRk (hrc hi h14) Y_Pa_writeTerm V_Pa_writeTerm t_366 (by omega) (by decide) (e_7 g _ _) rfl rfl hl.1 rfl (Nat.le_of_ble_eq_true rfl) dPa_writeWithParts_77 (fun H locs hP hS => ?_)
    refine lv_aload_n hx hb dPa_writeWithParts_80 rfl (lv_at hl 2 rfl) ?_
    refine lv_bipush (v := 41) hx hb dPa_writeWithParts_81 (by decide) ?_
    obtain ⟨rh16, σ17, h16, h⟩ := bn_some h
    refine q_cVv (rest := []) (As := [.int (41 : Int32)]) cx hP hS hRk (c_Pa_writeSign l g hg h16) Y_Pa_writeSign V_Pa_writeSign t_353 (by omega) (by decide) (e_7 g _ _) rfl rfl hl.1 rfl (Nat.le_of_ble_eq_true rfl) dPa_writeWithParts_83 (fun H locs hP hS => ?_)
    refine lv_goto (tgt := 215) hx hb dPa_writeWithParts_86 (by decide) ?_
    exact q_rv cx hr hP hS hQ h dPa_writeWithParts_215
  · replace h := if_f h hc3
    rcases Decidable.em (σ5.1 (cPk i) v2.toNatClampNeg = (4 : Int32)) with hc4 | hc4
    · replace h := if_t h hc4
      refine lv_tableIn (tgt := 89) hx hb dPa_writeWithParts_22 (by rw [hc4]; decide) (by rw [hc4]; decide) (by rw [hc4]; rfl) (by decide) ?_
      refine lv_aload_n hx hb dPa_writeWithParts_89 rfl (lv_at hl 2 rfl) ?_
      refine lv_aload_n hx hb dPa_writeWithParts_90 rfl (lv_at hl 3 rfl) ?_
      refine lv_iload hx hb dPa_writeWithParts_91 (lv_at hl 1 rfl) ?_
      refine lv_iload_n hx hb dPa_writeWithParts_93 rfl (lv_at hl 5 rfl) ?_
      refine lv_iconst (v := 1) hx hb dPa_writeWithParts_94 (by decide) ?_
      refine lv_iadd hx hb dPa_writeWithParts_95 ?_
      obtain ⟨rh18, σ19, h18, h⟩ := bn_some h
      refine q_cVv (rest := []) (As := [.ref (ad g (cP i)), .int r3, .int (v3 + (1 : Int32))]) cx hP hS hRk (hrc hi h18) Y_Pa_writeTerm V_Pa_writeTerm t_366 (by omega) (by decide) (e_7 g _ _) rfl rfl hl.1 rfl (Nat.le_of_ble_eq_true rfl) dPa_writeWithParts_96 (fun H locs hP hS => ?_)
      refine lv_aload_n hx hb dPa_writeWithParts_99 rfl (lv_at hl 2 rfl) ?_
      refine lv_bipush (v := 40) hx hb dPa_writeWithParts_100 (by decide) ?_
      obtain ⟨rh20, σ21, h20, h⟩ := bn_some h
      refine q_cVv (rest := []) (As := [.int (40 : Int32)]) cx hP hS hRk (c_Pa_writeSign l g hg h20) Y_Pa_writeSign V_Pa_writeSign t_353 (by omega) (by decide) (e_7 g _ _) rfl rfl hl.1 rfl (Nat.le_of_ble_eq_true rfl) dPa_writeWithParts_102 (fun H locs hP hS => ?_)
      refine lv_aload_n hx hb dPa_writeWithParts_105 rfl (lv_at hl 2 rfl) ?_
      refine lv_aload_n hx hb dPa_writeWithParts_106 rfl (lv_at hl 3 rfl) ?_
      refine lv_iload hx hb dPa_writeWithParts_107 (lv_at hl 0 rfl) ?_
      refine lv_iload_n hx hb dPa_writeWithParts_109 rfl (lv_at hl 5 rfl) ?_
      refine lv_iconst (v := 1) hx hb dPa_writeWithParts_110 (by decide) ?_
      refine lv_iadd hx hb dPa_writeWithParts_111 ?_
      obtain ⟨rh22, σ23, h22, h⟩ := bn_some h
      refine q_cVv (rest := []) (As := [.ref (ad g (cP i)), .int r6, .int (v3 + (1 : Int32))]) cx hP hS hRk (hrc hi h22) Y_Pa_writeTerm V_Pa_writeTerm t_366 (by omega) (by decide) (e_7 g _ _) rfl rfl hl.1 rfl (Nat.le_of_ble_eq_true rfl) dPa_writeWithParts_112 (fun H locs hP hS => ?_)
      refine lv_aload_n hx hb dPa_writeWithParts_115 rfl (lv_at hl 2 rfl) ?_
      refine lv_bipush (v := 41) hx hb dPa_writeWithParts_116 (by decide) ?_
      obtain ⟨rh24, σ25, h24, h⟩ := bn_some h
      refine q_cVv (rest := []) (As := [.int (41 : Int32)]) cx hP hS hRk (c_Pa_writeSign l g hg h24) Y_Pa_writeSign V_Pa_writeSign t_353 (by omega) (by decide) (e_7 g _ _) rfl rfl hl.1 rfl (Nat.le_of_ble_eq_true rfl) dPa_writeWithParts_118 (fun H locs hP hS => ?_)
      refine lv_goto (tgt := 215) hx hb dPa_writeWithParts_121 (by decide) ?_
      exact q_rv cx hr hP hS hQ h dPa_writeWithParts_215
    · replace h := if_f h hc4
      rcases Decidable.em (σ5.1 (cPk i) v2.toNatClampNeg = (5 : Int32)) with hc5 | hc5
      · replace h := if_t h hc5
        refine lv_tableIn (tgt := 124) hx hb dPa_writeWithParts_22 (by rw [hc5]; decide) (by rw [hc5]; decide) (by rw [hc5]; rfl) (by decide) ?_
        refine lv_aload_n hx hb dPa_writeWithParts_124 rfl (lv_at hl 2 rfl) ?_
        refine lv_bipush (v := 91) hx hb dPa_writeWithParts_125 (by decide) ?_
        obtain ⟨rh26, σ27, h26, h⟩ := bn_some h
        refine q_cVv (rest := []) (As := [.int (91 : Int32)]) cx hP hS hRk (c_Pa_writeSign l g hg h26) Y_Pa_writeSign V_Pa_writeSign t_353 (by omega) (by decide) (e_7 g _ _) rfl rfl hl.1 rfl (Nat.le_of_ble_eq_true rfl) dPa_writeWithParts_127 (fun H locs hP hS => ?_)
        refine lv_aload_n hx hb dPa_writeWithParts_130 rfl (lv_at hl 2 rfl) ?_
        refine lv_aload_n hx hb dPa_writeWithParts_131 rfl (lv_at hl 3 rfl) ?_
        refine g_Pr_figures cx hP hi  t_39 dPa_writeWithParts_132 ?_
        refine lv_iload_n hx hb dPa_writeWithParts_135 rfl (lv_at hl 4 rfl) ?_
        obtain ⟨b28, h⟩ := gd_some h
        refine q_iald cx hP (l_cPf hi) (e_cPf g hi) b28 dPa_writeWithParts_136 ?_
        obtain ⟨rh29, σ30, h29, h⟩ := bn_some h
        refine q_cVv (rest := []) (As := [.int (σ27.1 (cPf i) v2.toNatClampNeg)]) cx hP hS hRk (c_Pa_writeName l g hg h29) Y_Pa_writeName V_Pa_writeName t_357 (by omega) (by decide) (e_7 g _ _) rfl rfl hl.1 rfl (Nat.le_of_ble_eq_true rfl) dPa_writeWithParts_137 (fun H locs hP hS => ?_)
        refine lv_aload_n hx hb dPa_writeWithParts_140 rfl (lv_at hl 2 rfl) ?_
        refine lv_bipush (v := 58) hx hb dPa_writeWithParts_141 (by decide) ?_
        obtain ⟨rh31, σ32, h31, h⟩ := bn_some h
        refine q_cVv (rest := []) (As := [.int (58 : Int32)]) cx hP hS hRk (c_Pa_writeSign l g hg h31) Y_Pa_writeSign V_Pa_writeSign t_353 (by omega) (by decide) (e_7 g _ _) rfl rfl hl.1 rfl (Nat.le_of_ble_eq_true rfl) dPa_writeWithParts_143 (fun H locs hP hS => ?_)
        refine lv_aload_n hx hb dPa_writeWithParts_146 rfl (lv_at hl 2 rfl) ?_
        refine lv_aload_n hx hb dPa_writeWithParts_147 rfl (lv_at hl 3 rfl) ?_
        refine g_Pr_types cx hP hi  t_43 dPa_writeWithParts_148 ?_
        refine lv_iload_n hx hb dPa_writeWithParts_151 rfl (lv_at hl 4 rfl) ?_
        obtain ⟨b33, h⟩ := gd_some h
        refine q_lald cx hP (l_cPt hi) (e_cPt g hi) b33 dPa_writeWithParts_152 ?_
        refine lv_iconst (v := 0) hx hb dPa_writeWithParts_153 (by decide) ?_
        obtain ⟨rh34, σ35, h34, h⟩ := bn_some h
        refine q_cVv (rest := []) (As := [.long (σ32.2 (cPt i) v2.toNatClampNeg), .int (0 : Int32)]) cx hP hS hRk (C_Pa_writeType l g hg 28 h34) Y_Pa_writeType V_Pa_writeType t_367 (by omega) (by decide) (e_7 g _ _) rfl rfl hl.1 rfl (Nat.le_of_ble_eq_true rfl) dPa_writeWithParts_154 (fun H locs hP hS => ?_)
        refine lv_aload_n hx hb dPa_writeWithParts_157 rfl (lv_at hl 2 rfl) ?_
        refine lv_aload_n hx hb dPa_writeWithParts_158 rfl (lv_at hl 3 rfl) ?_
        refine lv_iload hx hb dPa_writeWithParts_159 (lv_at hl 1 rfl) ?_
        refine lv_iload_n hx hb dPa_writeWithParts_161 rfl (lv_at hl 5 rfl) ?_
        refine lv_iconst (v := 1) hx hb dPa_writeWithParts_162 (by decide) ?_
        refine lv_iadd hx hb dPa_writeWithParts_163 ?_
        obtain ⟨rh36, σ37, h36, h⟩ := bn_some h
        refine q_cVv (rest := []) (As := [.ref (ad g (cP i)), .int r3, .int (v3 + (1 : Int32))]) cx hP hS hRk (hrc hi h36) Y_Pa_writeTerm V_Pa_writeTerm t_366 (by omega) (by decide) (e_7 g _ _) rfl rfl hl.1 rfl (Nat.le_of_ble_eq_true rfl) dPa_writeWithParts_164 (fun H locs hP hS => ?_)
        refine lv_aload_n hx hb dPa_writeWithParts_167 rfl (lv_at hl 2 rfl) ?_
        refine lv_bipush (v := 93) hx hb dPa_writeWithParts_168 (by decide) ?_
        obtain ⟨rh38, σ39, h38, h⟩ := bn_some h
        refine q_cVv (rest := []) (As := [.int (93 : Int32)]) cx hP hS hRk (c_Pa_writeSign l g hg h38) Y_Pa_writeSign V_Pa_writeSign t_353 (by omega) (by decide) (e_7 g _ _) rfl rfl hl.1 rfl (Nat.le_of_ble_eq_true rfl) dPa_writeWithParts_170 (fun H locs hP hS => ?_)
        refine lv_goto (tgt := 215) hx hb dPa_writeWithParts_173 (by decide) ?_
        exact q_rv cx hr hP hS hQ h dPa_writeWithParts_215
      · replace h := if_f h hc5
        have hsw : (σ5.1 (cPk i) v2.toNatClampNeg).toInt < 3 ∨ 5 < (σ5.1 (cPk i) v2.toNatClampNeg).toInt := by
          have n3 := lv_neT (k := 3) (a := 3) hc3 rfl
          have n4 := lv_neT (k := 4) (a := 4) hc4 rfl
          have n5 := lv_neT (k := 5) (a := 5) hc5 rfl
          omega
        refine lv_tableOut (tgt := 176) hx hb dPa_writeWithParts_22 hsw (by decide) ?_
        refine lv_aload_n hx hb dPa_writeWithParts_176 rfl (lv_at hl 2 rfl) ?_
        refine lv_bipush (v := 123) hx hb dPa_writeWithParts_177 (by decide) ?_
        obtain ⟨rh40, σ41, h40, h⟩ := bn_some h
        refine q_cVv (rest := []) (As := [.int (123 : Int32)]) cx hP hS hRk (c_Pa_writeSign l g hg h40) Y_Pa_writeSign V_Pa_writeSign t_353 (by omega) (by decide) (e_7 g _ _) rfl rfl hl.1 rfl (Nat.le_of_ble_eq_true rfl) dPa_writeWithParts_179 (fun H locs hP hS => ?_)
        refine lv_aload_n hx hb dPa_writeWithParts_182 rfl (lv_at hl 2 rfl) ?_
        refine lv_aload_n hx hb dPa_writeWithParts_183 rfl (lv_at hl 3 rfl) ?_
        refine lv_iload hx hb dPa_writeWithParts_184 (lv_at hl 1 rfl) ?_
        refine lv_iload_n hx hb dPa_writeWithParts_186 rfl (lv_at hl 5 rfl) ?_
        refine lv_iconst (v := 1) hx hb dPa_writeWithParts_187 (by decide) ?_
        refine lv_iadd hx hb dPa_writeWithParts_188 ?_
        obtain ⟨rh42, σ43, h42, h⟩ := bn_some h
        refine q_cVv (rest := []) (As := [.ref (ad g (cP i)), .int r3, .int (v3 + (1 : Int32))]) cx hP hS hRk (hrc hi h42) Y_Pa_writeTerm V_Pa_writeTerm t_366 (by omega) (by decide) (e_7 g _ _) rfl rfl hl.1 rfl (Nat.le_of_ble_eq_true rfl) dPa_writeWithParts_189 (fun H locs hP hS => ?_)
        refine lv_aload_n hx hb dPa_writeWithParts_192 rfl (lv_at hl 2 rfl) ?_
        refine lv_bipush (v := 58) hx hb dPa_writeWithParts_193 (by decide) ?_
        obtain ⟨rh44, σ45, h44, h⟩ := bn_some h
        refine q_cVv (rest := []) (As := [.int (58 : Int32)]) cx hP hS hRk (c_Pa_writeSign l g hg h44) Y_Pa_writeSign V_Pa_writeSign t_353 (by omega) (by decide) (e_7 g _ _) rfl rfl hl.1 rfl (Nat.le_of_ble_eq_true rfl) dPa_writeWithParts_195 (fun H locs hP hS => ?_)
        refine lv_aload_n hx hb dPa_writeWithParts_198 rfl (lv_at hl 2 rfl) ?_
        refine lv_aload_n hx hb dPa_writeWithParts_199 rfl (lv_at hl 3 rfl) ?_
        refine g_Pr_types cx hP hi  t_43 dPa_writeWithParts_200 ?_
        refine lv_iload_n hx hb dPa_writeWithParts_203 rfl (lv_at hl 4 rfl) ?_
        obtain ⟨b46, h⟩ := gd_some h
        refine q_lald cx hP (l_cPt hi) (e_cPt g hi) b46 dPa_writeWithParts_204 ?_
        refine lv_iconst (v := 0) hx hb dPa_writeWithParts_205 (by decide) ?_
        obtain ⟨rh47, σ48, h47, h⟩ := bn_some h
        refine q_cVv (rest := []) (As := [.long (σ45.2 (cPt i) v2.toNatClampNeg), .int (0 : Int32)]) cx hP hS hRk (C_Pa_writeType l g hg 28 h47) Y_Pa_writeType V_Pa_writeType t_367 (by omega) (by decide) (e_7 g _ _) rfl rfl hl.1 rfl (Nat.le_of_ble_eq_true rfl) dPa_writeWithParts_206 (fun H locs hP hS => ?_)
        refine lv_aload_n hx hb dPa_writeWithParts_209 rfl (lv_at hl 2 rfl) ?_
        refine lv_bipush (v := 125) hx hb dPa_writeWithParts_210 (by decide) ?_
        obtain ⟨rh49, σ50, h49, h⟩ := bn_some h
        refine q_cVv (rest := []) (As := [.int (125 : Int32)]) cx hP hS hRk (c_Pa_writeSign l g hg h49) Y_Pa_writeSign V_Pa_writeSign t_353 (by omega) (by decide) (e_7 g _ _) rfl rfl hl.1 rfl (Nat.le_of_ble_eq_true rfl) dPa_writeWithParts_212 (fun H locs hP hS => ?_)
        exact q_rv cx hr hP hS hQ h dPa_writeWithParts_215
theorem dPa_writeTerm_0 : decode cPa_writeTerm 0 = .ok (.iload_n 2, 1) := by decide +kernel
theorem dPa_writeTerm_1 : decode cPa_writeTerm 1 = .ok (.ifCond .lt 9, 3) := by decide +kernel
theorem dPa_writeTerm_4 : decode cPa_writeTerm 4 = .ok (.iload_n 3, 1) := by decide +kernel
theorem dPa_writeTerm_5 : decode cPa_writeTerm 5 = .ok (.bipush 12, 2) := by decide +kernel
theorem dPa_writeTerm_7 : decode cPa_writeTerm 7 = .ok (.if_icmp .lt 4, 3) := by decide +kernel
theorem dPa_writeTerm_10 : decode cPa_writeTerm 10 = .ok (.return_, 1) := by decide +kernel
theorem dPa_writeTerm_11 : decode cPa_writeTerm 11 = .ok (.aload_n 0, 1) := by decide +kernel
theorem dPa_writeTerm_12 : decode cPa_writeTerm 12 = .ok (.getfield 15, 3) := by decide +kernel
theorem dPa_writeTerm_15 : decode cPa_writeTerm 15 = .ok (.iload_n 2, 1) := by decide +kernel
theorem dPa_writeTerm_16 : decode cPa_writeTerm 16 = .ok (.aload_n 0, 1) := by decide +kernel
theorem dPa_writeTerm_17 : decode cPa_writeTerm 17 = .ok (.getfield 22, 3) := by decide +kernel
theorem dPa_writeTerm_20 : decode cPa_writeTerm 20 = .ok (.iastore, 1) := by decide +kernel
theorem dPa_writeTerm_21 : decode cPa_writeTerm 21 = .ok (.aload_n 1, 1) := by decide +kernel
theorem dPa_writeTerm_22 : decode cPa_writeTerm 22 = .ok (.getfield 40, 3) := by decide +kernel
theorem dPa_writeTerm_25 : decode cPa_writeTerm 25 = .ok (.iload_n 2, 1) := by decide +kernel
theorem dPa_writeTerm_26 : decode cPa_writeTerm 26 = .ok (.iaload, 1) := by decide +kernel
theorem dPa_writeTerm_27 : decode cPa_writeTerm 27 = .ok (.iconst 1, 1) := by decide +kernel
theorem dPa_writeTerm_28 : decode cPa_writeTerm 28 = .ok (.if_icmp .ne 16, 3) := by decide +kernel
theorem dPa_writeTerm_31 : decode cPa_writeTerm 31 = .ok (.aload_n 0, 1) := by decide +kernel
theorem dPa_writeTerm_32 : decode cPa_writeTerm 32 = .ok (.aload_n 1, 1) := by decide +kernel
theorem dPa_writeTerm_33 : decode cPa_writeTerm 33 = .ok (.getfield 46, 3) := by decide +kernel
theorem dPa_writeTerm_36 : decode cPa_writeTerm 36 = .ok (.iload_n 2, 1) := by decide +kernel
theorem dPa_writeTerm_37 : decode cPa_writeTerm 37 = .ok (.iaload, 1) := by decide +kernel
theorem dPa_writeTerm_38 : decode cPa_writeTerm 38 = .ok (.invokevirtual 49, 3) := by decide +kernel
theorem dPa_writeTerm_41 : decode cPa_writeTerm 41 = .ok (.goto 51, 3) := by decide +kernel
theorem dPa_writeTerm_44 : decode cPa_writeTerm 44 = .ok (.aload_n 1, 1) := by decide +kernel
theorem dPa_writeTerm_45 : decode cPa_writeTerm 45 = .ok (.getfield 40, 3) := by decide +kernel
theorem dPa_writeTerm_48 : decode cPa_writeTerm 48 = .ok (.iload_n 2, 1) := by decide +kernel
theorem dPa_writeTerm_49 : decode cPa_writeTerm 49 = .ok (.iaload, 1) := by decide +kernel
theorem dPa_writeTerm_50 : decode cPa_writeTerm 50 = .ok (.iconst 2, 1) := by decide +kernel
theorem dPa_writeTerm_51 : decode cPa_writeTerm 51 = .ok (.if_icmp .ne 16, 3) := by decide +kernel
theorem dPa_writeTerm_54 : decode cPa_writeTerm 54 = .ok (.aload_n 0, 1) := by decide +kernel
theorem dPa_writeTerm_55 : decode cPa_writeTerm 55 = .ok (.aload_n 1, 1) := by decide +kernel
theorem dPa_writeTerm_56 : decode cPa_writeTerm 56 = .ok (.getfield 46, 3) := by decide +kernel
theorem dPa_writeTerm_59 : decode cPa_writeTerm 59 = .ok (.iload_n 2, 1) := by decide +kernel
theorem dPa_writeTerm_60 : decode cPa_writeTerm 60 = .ok (.iaload, 1) := by decide +kernel
theorem dPa_writeTerm_61 : decode cPa_writeTerm 61 = .ok (.invokevirtual 53, 3) := by decide +kernel
theorem dPa_writeTerm_64 : decode cPa_writeTerm 64 = .ok (.goto 28, 3) := by decide +kernel
theorem dPa_writeTerm_67 : decode cPa_writeTerm 67 = .ok (.aload_n 1, 1) := by decide +kernel
theorem dPa_writeTerm_68 : decode cPa_writeTerm 68 = .ok (.getfield 40, 3) := by decide +kernel
theorem dPa_writeTerm_71 : decode cPa_writeTerm 71 = .ok (.iload_n 2, 1) := by decide +kernel
theorem dPa_writeTerm_72 : decode cPa_writeTerm 72 = .ok (.iaload, 1) := by decide +kernel
theorem dPa_writeTerm_73 : decode cPa_writeTerm 73 = .ok (.ifCond .ne 12, 3) := by decide +kernel
theorem dPa_writeTerm_76 : decode cPa_writeTerm 76 = .ok (.aload_n 0, 1) := by decide +kernel
theorem dPa_writeTerm_77 : decode cPa_writeTerm 77 = .ok (.bipush 63, 2) := by decide +kernel
theorem dPa_writeTerm_79 : decode cPa_writeTerm 79 = .ok (.invokevirtual 56, 3) := by decide +kernel
theorem dPa_writeTerm_82 : decode cPa_writeTerm 82 = .ok (.goto 10, 3) := by decide +kernel
theorem dPa_writeTerm_85 : decode cPa_writeTerm 85 = .ok (.aload_n 0, 1) := by decide +kernel
theorem dPa_writeTerm_86 : decode cPa_writeTerm 86 = .ok (.aload_n 1, 1) := by decide +kernel
theorem dPa_writeTerm_87 : decode cPa_writeTerm 87 = .ok (.iload_n 2, 1) := by decide +kernel
theorem dPa_writeTerm_88 : decode cPa_writeTerm 88 = .ok (.iload_n 3, 1) := by decide +kernel
theorem dPa_writeTerm_89 : decode cPa_writeTerm 89 = .ok (.invokevirtual 59, 3) := by decide +kernel
theorem dPa_writeTerm_92 : decode cPa_writeTerm 92 = .ok (.aload_n 0, 1) := by decide +kernel
theorem dPa_writeTerm_93 : decode cPa_writeTerm 93 = .ok (.getfield 19, 3) := by decide +kernel
theorem dPa_writeTerm_96 : decode cPa_writeTerm 96 = .ok (.iload_n 2, 1) := by decide +kernel
theorem dPa_writeTerm_97 : decode cPa_writeTerm 97 = .ok (.aload_n 0, 1) := by decide +kernel
theorem dPa_writeTerm_98 : decode cPa_writeTerm 98 = .ok (.getfield 22, 3) := by decide +kernel
theorem dPa_writeTerm_101 : decode cPa_writeTerm 101 = .ok (.iastore, 1) := by decide +kernel
theorem dPa_writeTerm_102 : decode cPa_writeTerm 102 = .ok (.return_, 1) := by decide +kernel
def f_Pa_writeTerm_J92 (rc : Nat → Int32 → Int32 → Mem → Option (Unit × Mem)) (i : Nat) (v2 : Int32) (v3 : Int32) (σ : Mem) : Option (Unit × Mem) :=
  gd (inb v2 40) (lt_ (sI σ 10 v2.toNatClampNeg (σ.1 7 3)) fun (σ2 : Mem) =>
  some ((), σ2))
def f_Pa_writeTerm (rc : Nat → Int32 → Int32 → Mem → Option (Unit × Mem)) (i : Nat) (v2 : Int32) (v3 : Int32) (σ : Mem) : Option (Unit × Mem) :=
  if v2 < 0 then (
  some ((), σ))
  else (
  if v3 < (12 : Int32) then (
  gd (inb v2 40) (lt_ (sI σ 9 v2.toNatClampNeg (σ.1 7 3)) fun (σ4 : Mem) =>
  gd (inb v2 40) (
  if (σ4.1 (cPk i) v2.toNatClampNeg) = (1 : Int32) then (
  gd (inb v2 40) (
  bn (f_Pa_writeNumber (σ4.1 (cPf i) v2.toNatClampNeg) σ4) fun (_ : Unit) (σ17 : Mem) =>
  f_Pa_writeTerm_J92 rc i v2 v3 σ17))
  else (
  gd (inb v2 40) (
  if (σ4.1 (cPk i) v2.toNatClampNeg) = (2 : Int32) then (
  gd (inb v2 40) (
  bn (f_Pa_writeName (σ4.1 (cPf i) v2.toNatClampNeg) σ4) fun (_ : Unit) (σ14 : Mem) =>
  f_Pa_writeTerm_J92 rc i v2 v3 σ14))
  else (
  gd (inb v2 40) (
  if (σ4.1 (cPk i) v2.toNatClampNeg) = 0 then (
  bn (f_Pa_writeSign (63 : Int32) σ4) fun (_ : Unit) (σ11 : Mem) =>
  f_Pa_writeTerm_J92 rc i v2 v3 σ11)
  else (
  bn (f_Pa_writeWithParts rc i v2 v3 σ4) fun (_ : Unit) (σ9 : Mem) =>
  f_Pa_writeTerm_J92 rc i v2 v3 σ9))))))))
  else (
  some ((), σ)))
set_option maxHeartbeats 4000000 in
set_option maxRecDepth 100000 in
theorem c_Pa_writeTerm (l : Launch) (g : Gw) (hg : wInj g) {rc : Nat → Int32 → Int32 → Mem → Option (Unit × Mem)} {d0 : Nat} (hd0 : 31 ≤ d0) (hrc : ∀ {i : Nat} (hi : i < 17) {v2 : Int32} {v3 : Int32} {σ σ0 : Mem}, rc i v2 v3 σ = some ((), σ0) → KV l yPa_writeTerm cPa_writeTerm 4 none d0 g [.ref (ad g 7), .ref (ad g (cP i)), .int v2, .int v3] σ σ0) {i : Nat} (hi : i < 17) {v2 : Int32} {v3 : Int32} {σ σ0 : Mem} (h : f_Pa_writeTerm rc i v2 v3 σ = some ((), σ0)) : KV l yPa_writeTerm cPa_writeTerm 4 none (d0 + 2) g [.ref (ad g 7), .ref (ad g (cP i)), .int v2, .int v3] σ σ0 := by
  refine q_met g hg (own := "TermBench$Page") rfl rfl (Nat.le_of_ble_eq_true rfl) (fun p e s m args below meth c R Q cx hRk hr hQ H locs ls hP hS hl => ?_)
  have hx := cx.1
  have hb := cx.2.1
  have hown := cx.2.2.2.1
  have hts := cx.2.2.2.2.1
  have hl : lv_has ls 4 [(0, .ref (ad g 7)), (1, .ref (ad g (cP i))), (2, .int v2), (3, .int v3)] := hl
  have J92 : ∀ (v2 : Int32) (v3 : Int32) (σ : Mem), f_Pa_writeTerm_J92 rc i v2 v3 σ = some ((), σ0) → ∀ (H : Heap) (locs : List Loc) (ls : Array Slot), lv_has ls 4 [(0, .ref (ad g 7)), (1, .ref (ad g (cP i))), (2, .int v2), (3, .int v3)] → Wd g σ H → va_S (wA g) s.heap H locs → W p l e R s m args below meth c H locs 0 0 Q (F0 m 92 ls []) := by
    intro v2 v3 σ h H locs ls hl hP hS
    unfold f_Pa_writeTerm_J92 at h
    refine lv_aload_n hx hb dPa_writeTerm_92 rfl (lv_at hl 0 rfl) ?_
    refine g_Pa_ends cx hP  t_115 dPa_writeTerm_93 ?_
    refine lv_iload_n hx hb dPa_writeTerm_96 rfl (lv_at hl 2 rfl) ?_
    refine lv_aload_n hx hb dPa_writeTerm_97 rfl (lv_at hl 0 rfl) ?_
    refine g_Pa_length cx hP  t_116 dPa_writeTerm_98 ?_
    obtain ⟨b1, h⟩ := gd_some h
    obtain ⟨σ2, eσ2, h⟩ := lt_some h
    refine q_iast cx hP hS (by decide) (e_10 g) b1 dPa_writeTerm_101 eσ2 (fun H locs hP hS => ?_)
    exact q_rv cx hr hP hS hQ h dPa_writeTerm_102
  unfold f_Pa_writeTerm at h
  refine lv_iload_n hx hb dPa_writeTerm_0 rfl (lv_at hl 2 rfl) ?_
  refine lv_if_lt (tgt := 10) hx hb dPa_writeTerm_1 (by decide) (fun hc => ?_) (fun hc => ?_)
  · replace h := if_t h hc
    exact q_rv cx hr hP hS hQ h dPa_writeTerm_10
  · replace h := if_f h hc
    refine lv_iload_n hx hb dPa_writeTerm_4 rfl (lv_at hl 3 rfl) ?_
    refine lv_bipush (v := 12) hx hb dPa_writeTerm_5 (by decide) ?_
    refine lv_icmp_lt (tgt := 11) hx hb dPa_writeTerm_7 (by decide) (fun hc => ?_) (fun hc => ?_)
    · replace h := if_t h hc
      refine lv_aload_n hx hb dPa_writeTerm_11 rfl (lv_at hl 0 rfl) ?_
      refine g_Pa_begins cx hP  t_113 dPa_writeTerm_12 ?_
      refine lv_iload_n hx hb dPa_writeTerm_15 rfl (lv_at hl 2 rfl) ?_
      refine lv_aload_n hx hb dPa_writeTerm_16 rfl (lv_at hl 0 rfl) ?_
      refine g_Pa_length cx hP  t_116 dPa_writeTerm_17 ?_
      obtain ⟨b3, h⟩ := gd_some h
      obtain ⟨σ4, eσ4, h⟩ := lt_some h
      refine q_iast cx hP hS (by decide) (e_9 g) b3 dPa_writeTerm_20 eσ4 (fun H locs hP hS => ?_)
      refine lv_aload_n hx hb dPa_writeTerm_21 rfl (lv_at hl 1 rfl) ?_
      refine g_Pr_kinds cx hP hi  t_35 dPa_writeTerm_22 ?_
      refine lv_iload_n hx hb dPa_writeTerm_25 rfl (lv_at hl 2 rfl) ?_
      obtain ⟨b5, h⟩ := gd_some h
      refine q_iald cx hP (l_cPk hi) (e_cPk g hi) b5 dPa_writeTerm_26 ?_
      refine lv_iconst (v := 1) hx hb dPa_writeTerm_27 (by decide) ?_
      refine lv_icmp_ne (tgt := 44) hx hb dPa_writeTerm_28 (by decide) (fun hc => ?_) (fun hc => ?_)
      · replace h := if_f h hc
        refine lv_aload_n hx hb dPa_writeTerm_44 rfl (lv_at hl 1 rfl) ?_
        refine g_Pr_kinds cx hP hi  t_35 dPa_writeTerm_45 ?_
        refine lv_iload_n hx hb dPa_writeTerm_48 rfl (lv_at hl 2 rfl) ?_
        obtain ⟨b6, h⟩ := gd_some h
        refine q_iald cx hP (l_cPk hi) (e_cPk g hi) b6 dPa_writeTerm_49 ?_
        refine lv_iconst (v := 2) hx hb dPa_writeTerm_50 (by decide) ?_
        refine lv_icmp_ne (tgt := 67) hx hb dPa_writeTerm_51 (by decide) (fun hc => ?_) (fun hc => ?_)
        · replace h := if_f h hc
          refine lv_aload_n hx hb dPa_writeTerm_67 rfl (lv_at hl 1 rfl) ?_
          refine g_Pr_kinds cx hP hi  t_35 dPa_writeTerm_68 ?_
          refine lv_iload_n hx hb dPa_writeTerm_71 rfl (lv_at hl 2 rfl) ?_
          obtain ⟨b7, h⟩ := gd_some h
          refine q_iald cx hP (l_cPk hi) (e_cPk g hi) b7 dPa_writeTerm_72 ?_
          refine lv_if_ne (tgt := 85) hx hb dPa_writeTerm_73 (by decide) (fun hc => ?_) (fun hc => ?_)
          · replace h := if_f h hc
            refine lv_aload_n hx hb dPa_writeTerm_85 rfl (lv_at hl 0 rfl) ?_
            refine lv_aload_n hx hb dPa_writeTerm_86 rfl (lv_at hl 1 rfl) ?_
            refine lv_iload_n hx hb dPa_writeTerm_87 rfl (lv_at hl 2 rfl) ?_
            refine lv_iload_n hx hb dPa_writeTerm_88 rfl (lv_at hl 3 rfl) ?_
            obtain ⟨rh8, σ9, h8, h⟩ := bn_some h
            refine q_cVv (rest := []) (As := [.ref (ad g (cP i)), .int v2, .int v3]) cx hP hS hRk (c_Pa_writeWithParts l g hg hd0 hrc hi h8) Y_Pa_writeWithParts V_Pa_writeWithParts t_361 (by omega) (by decide) (e_7 g _ _) rfl rfl hl.1 rfl (Nat.le_of_ble_eq_true rfl) dPa_writeTerm_89 (fun H locs hP hS => ?_)
            exact J92 _ _ _ h _ _ _ (lv_sub hl [0, 1, 2, 3] rfl) hP hS
          · replace h := if_t h hc
            refine lv_aload_n hx hb dPa_writeTerm_76 rfl (lv_at hl 0 rfl) ?_
            refine lv_bipush (v := 63) hx hb dPa_writeTerm_77 (by decide) ?_
            obtain ⟨rh10, σ11, h10, h⟩ := bn_some h
            refine q_cVv (rest := []) (As := [.int (63 : Int32)]) cx hP hS hRk (c_Pa_writeSign l g hg h10) Y_Pa_writeSign V_Pa_writeSign t_353 (by omega) (by decide) (e_7 g _ _) rfl rfl hl.1 rfl (Nat.le_of_ble_eq_true rfl) dPa_writeTerm_79 (fun H locs hP hS => ?_)
            refine lv_goto (tgt := 92) hx hb dPa_writeTerm_82 (by decide) ?_
            exact J92 _ _ _ h _ _ _ (lv_sub hl [0, 1, 2, 3] rfl) hP hS
        · replace h := if_t h hc
          refine lv_aload_n hx hb dPa_writeTerm_54 rfl (lv_at hl 0 rfl) ?_
          refine lv_aload_n hx hb dPa_writeTerm_55 rfl (lv_at hl 1 rfl) ?_
          refine g_Pr_figures cx hP hi  t_39 dPa_writeTerm_56 ?_
          refine lv_iload_n hx hb dPa_writeTerm_59 rfl (lv_at hl 2 rfl) ?_
          obtain ⟨b12, h⟩ := gd_some h
          refine q_iald cx hP (l_cPf hi) (e_cPf g hi) b12 dPa_writeTerm_60 ?_
          obtain ⟨rh13, σ14, h13, h⟩ := bn_some h
          refine q_cVv (rest := []) (As := [.int (σ4.1 (cPf i) v2.toNatClampNeg)]) cx hP hS hRk (c_Pa_writeName l g hg h13) Y_Pa_writeName V_Pa_writeName t_357 (by omega) (by decide) (e_7 g _ _) rfl rfl hl.1 rfl (Nat.le_of_ble_eq_true rfl) dPa_writeTerm_61 (fun H locs hP hS => ?_)
          refine lv_goto (tgt := 92) hx hb dPa_writeTerm_64 (by decide) ?_
          exact J92 _ _ _ h _ _ _ (lv_sub hl [0, 1, 2, 3] rfl) hP hS
      · replace h := if_t h hc
        refine lv_aload_n hx hb dPa_writeTerm_31 rfl (lv_at hl 0 rfl) ?_
        refine lv_aload_n hx hb dPa_writeTerm_32 rfl (lv_at hl 1 rfl) ?_
        refine g_Pr_figures cx hP hi  t_39 dPa_writeTerm_33 ?_
        refine lv_iload_n hx hb dPa_writeTerm_36 rfl (lv_at hl 2 rfl) ?_
        obtain ⟨b15, h⟩ := gd_some h
        refine q_iald cx hP (l_cPf hi) (e_cPf g hi) b15 dPa_writeTerm_37 ?_
        obtain ⟨rh16, σ17, h16, h⟩ := bn_some h
        refine q_cVv (rest := []) (As := [.int (σ4.1 (cPf i) v2.toNatClampNeg)]) cx hP hS hRk (c_Pa_writeNumber l g hg h16) Y_Pa_writeNumber V_Pa_writeNumber t_346 (by omega) (by decide) (e_7 g _ _) rfl rfl hl.1 rfl (Nat.le_of_ble_eq_true rfl) dPa_writeTerm_38 (fun H locs hP hS => ?_)
        refine lv_goto (tgt := 92) hx hb dPa_writeTerm_41 (by decide) ?_
        exact J92 _ _ _ h _ _ _ (lv_sub hl [0, 1, 2, 3] rfl) hP hS
    · replace h := if_f h hc
      exact q_rv cx hr hP hS hQ h dPa_writeTerm_10
def F_Pa_writeTerm : Nat → Nat → Int32 → Int32 → Mem → Option (Unit × Mem)
  | 0 => fun _ _ _ _ => none
  | n + 1 => fun a0 a1 a2 a3 => f_Pa_writeTerm (F_Pa_writeTerm n) a0 a1 a2 a3
theorem C_Pa_writeTerm (l : Launch) (g : Gw) (hg : wInj g) : ∀ (n : Nat) {i : Nat} (hi : i < 17) {v2 : Int32} {v3 : Int32} {σ σ0 : Mem}, F_Pa_writeTerm n i v2 v3 σ = some ((), σ0) → KV l yPa_writeTerm cPa_writeTerm 4 none (31 + 2 * n) g [.ref (ad g 7), .ref (ad g (cP i)), .int v2, .int v3] σ σ0 := by
  intro n
  induction n with
  | zero => intros; rename_i h; simp [F_Pa_writeTerm] at h
  | succ n ih =>
    intros
    rename_i h
    exact c_Pa_writeTerm l g hg (d0 := 31 + 2 * n) (Nat.le_add_right _ _) ih (by assumption) h
theorem dPa_nextHole_0 : decode cPa_nextHole 0 = .ok (.iconst (-1), 1) := by decide +kernel
theorem dPa_nextHole_1 : decode cPa_nextHole 1 = .ok (.istore_n 2, 1) := by decide +kernel
theorem dPa_nextHole_2 : decode cPa_nextHole 2 = .ok (.iconst 0, 1) := by decide +kernel
theorem dPa_nextHole_3 : decode cPa_nextHole 3 = .ok (.istore_n 3, 1) := by decide +kernel
theorem dPa_nextHole_4 : decode cPa_nextHole 4 = .ok (.iload_n 3, 1) := by decide +kernel
theorem dPa_nextHole_5 : decode cPa_nextHole 5 = .ok (.aload_n 1, 1) := by decide +kernel
theorem dPa_nextHole_6 : decode cPa_nextHole 6 = .ok (.getfield 35, 3) := by decide +kernel
theorem dPa_nextHole_9 : decode cPa_nextHole 9 = .ok (.if_icmp .ge 48, 3) := by decide +kernel
theorem dPa_nextHole_12 : decode cPa_nextHole 12 = .ok (.aload_n 1, 1) := by decide +kernel
theorem dPa_nextHole_13 : decode cPa_nextHole 13 = .ok (.getfield 40, 3) := by decide +kernel
theorem dPa_nextHole_16 : decode cPa_nextHole 16 = .ok (.iload_n 3, 1) := by decide +kernel
theorem dPa_nextHole_17 : decode cPa_nextHole 17 = .ok (.iaload, 1) := by decide +kernel
theorem dPa_nextHole_18 : decode cPa_nextHole 18 = .ok (.ifCond .ne 33, 3) := by decide +kernel
theorem dPa_nextHole_21 : decode cPa_nextHole 21 = .ok (.aload_n 0, 1) := by decide +kernel
theorem dPa_nextHole_22 : decode cPa_nextHole 22 = .ok (.getfield 15, 3) := by decide +kernel
theorem dPa_nextHole_25 : decode cPa_nextHole 25 = .ok (.iload_n 3, 1) := by decide +kernel
theorem dPa_nextHole_26 : decode cPa_nextHole 26 = .ok (.iaload, 1) := by decide +kernel
theorem dPa_nextHole_27 : decode cPa_nextHole 27 = .ok (.aload_n 0, 1) := by decide +kernel
theorem dPa_nextHole_28 : decode cPa_nextHole 28 = .ok (.getfield 15, 3) := by decide +kernel
theorem dPa_nextHole_31 : decode cPa_nextHole 31 = .ok (.aload_n 1, 1) := by decide +kernel
theorem dPa_nextHole_32 : decode cPa_nextHole 32 = .ok (.getfield 43, 3) := by decide +kernel
theorem dPa_nextHole_35 : decode cPa_nextHole 35 = .ok (.iaload, 1) := by decide +kernel
theorem dPa_nextHole_36 : decode cPa_nextHole 36 = .ok (.if_icmp .le 5, 3) := by decide +kernel
theorem dPa_nextHole_39 : decode cPa_nextHole 39 = .ok (.iload_n 3, 1) := by decide +kernel
theorem dPa_nextHole_40 : decode cPa_nextHole 40 = .ok (.ireturn, 1) := by decide +kernel
theorem dPa_nextHole_41 : decode cPa_nextHole 41 = .ok (.iload_n 2, 1) := by decide +kernel
theorem dPa_nextHole_42 : decode cPa_nextHole 42 = .ok (.ifCond .ge 7, 3) := by decide +kernel
theorem dPa_nextHole_45 : decode cPa_nextHole 45 = .ok (.iload_n 3, 1) := by decide +kernel
theorem dPa_nextHole_46 : decode cPa_nextHole 46 = .ok (.goto 4, 3) := by decide +kernel
theorem dPa_nextHole_49 : decode cPa_nextHole 49 = .ok (.iload_n 2, 1) := by decide +kernel
theorem dPa_nextHole_50 : decode cPa_nextHole 50 = .ok (.istore_n 2, 1) := by decide +kernel
theorem dPa_nextHole_51 : decode cPa_nextHole 51 = .ok (.iinc 3 1, 3) := by decide +kernel
theorem dPa_nextHole_54 : decode cPa_nextHole 54 = .ok (.goto (-50), 3) := by decide +kernel
theorem dPa_nextHole_57 : decode cPa_nextHole 57 = .ok (.iload_n 2, 1) := by decide +kernel
theorem dPa_nextHole_58 : decode cPa_nextHole 58 = .ok (.ireturn, 1) := by decide +kernel
def f_Pa_nextHole_J51 (i : Nat) (v2 : Int32) (v3 : Int32) (σ : Mem) : Option ((Int32 × Int32 × Mem) ⊕ (Int32 × Mem)) :=
  lt_ (v3 + 1) fun (x1 : Int32) =>
  some (.inl (v2, x1, σ))
def f_Pa_nextHole_J50 (i : Nat) (v2 : Int32) (v3 : Int32) (u0 : Int32) (σ : Mem) : Option ((Int32 × Int32 × Mem) ⊕ (Int32 × Mem)) :=
  f_Pa_nextHole_J51 i u0 v3 σ
def f_Pa_nextHole_L4 (i : Nat)  (v2 : Int32) (v3 : Int32) (σ : Mem) : Option ((Int32 × Int32 × Mem) ⊕ (Int32 × Mem)) :=
  if (σ.1 (cP i) 4) ≤ v3 then (
  inrM (some (v2, σ)))
  else (
  gd (inb v3 40) (
  if (σ.1 (cPk i) v3.toNatClampNeg) = 0 then (
  gd (inb v3 40) (
  gd (inb (σ.1 (cP i) 5) 40) (
  if (σ.1 9 v3.toNatClampNeg) ≤ (σ.1 9 (σ.1 (cP i) 5).toNatClampNeg) then (
  if 0 ≤ v2 then (
  f_Pa_nextHole_J50 i v2 v3 v2 σ)
  else (
  f_Pa_nextHole_J50 i v2 v3 v3 σ))
  else (
  inrM (some (v3, σ))))))
  else (
  f_Pa_nextHole_J51 i v2 v3 σ)))
def f_Pa_nextHole (i : Nat)  (σ : Mem) : Option (Int32 × Mem) :=
  lt_ ((-1) : Int32) fun (x7 : Int32) =>
  lt_ (0 : Int32) fun (x8 : Int32) =>
  loopF (fun (q : (Int32 × Int32 × Mem)) => f_Pa_nextHole_L4 i q.1 q.2.1 q.2.2) FU (x7, x8, σ)
set_option maxHeartbeats 4000000 in
set_option maxRecDepth 100000 in
theorem c_Pa_nextHole (l : Launch) (g : Gw) (hg : wInj g) {i : Nat} (hi : i < 17) {r0 : Int32} {σ σ0 : Mem} (h : f_Pa_nextHole i σ = some (r0, σ0)) : KI l yPa_nextHole cPa_nextHole 4 (some .int) 0 g [.ref (ad g 7), .ref (ad g (cP i))] σ r0 σ0 := by
  refine q_met g hg (own := "TermBench$Page") rfl rfl (Nat.le_of_ble_eq_true rfl) (fun p e s m args below meth c R Q cx hRk hr hQ H locs ls hP hS hl => ?_)
  have hx := cx.1
  have hb := cx.2.1
  have hown := cx.2.2.2.1
  have hts := cx.2.2.2.2.1
  have hl : lv_has ls 4 [(0, .ref (ad g 7)), (1, .ref (ad g (cP i)))] := hl
  unfold f_Pa_nextHole at h
  refine lv_iconst (v := (-1)) hx hb dPa_nextHole_0 (by decide) ?_
  obtain ⟨x7, ex7, h⟩ := lt_some h
  refine q_nmi ex7 ?_
  refine lv_istore_n (lv' := [(2, .int x7), (0, .ref (ad g 7)), (1, .ref (ad g (cP i)))]) hx hb dPa_nextHole_1 rfl hl (Nat.le_of_ble_eq_true rfl) rfl (fun ls hl => ?_)
  refine lv_iconst (v := 0) hx hb dPa_nextHole_2 (by decide) ?_
  obtain ⟨x8, ex8, h⟩ := lt_some h
  refine q_nmi ex8 ?_
  refine lv_istore_n (lv' := [(3, .int x8), (2, .int x7), (0, .ref (ad g 7)), (1, .ref (ad g (cP i)))]) hx hb dPa_nextHole_3 rfl hl (Nat.le_of_ble_eq_true rfl) rfl (fun ls hl => ?_)
  have L4 : ∀ (n : Nat) (v2 : Int32) (v3 : Int32) (σ : Mem), loopF (fun (q : (Int32 × Int32 × Mem)) => f_Pa_nextHole_L4 i q.1 q.2.1 q.2.2) n (v2, v3, σ) = some (r0, σ0) → ∀ (H : Heap) (locs : List Loc) (ls : Array Slot), lv_has ls 4 [(0, .ref (ad g 7)), (1, .ref (ad g (cP i))), (2, .int v2), (3, .int v3)] → Wd g σ H → va_S (wA g) s.heap H locs → W p l e R s m args below meth c H locs 0 0 Q (F0 m 4 ls []) := by
    intro n
    induction n with
    | zero => intro v2 v3 σ h; exact (loopF_zero h).elim
    | succ n ih4 =>
      intro v2 v3 σ h H locs ls hl hP hS
      obtain ⟨o4, h, K4, E4⟩ := loopF_succ h
      have h : f_Pa_nextHole_L4 i v2 v3 σ = some o4 := h
      have J51 : ∀ (v2 : Int32) (v3 : Int32) (σ : Mem), f_Pa_nextHole_J51 i v2 v3 σ = some o4 → ∀ (H : Heap) (locs : List Loc) (ls : Array Slot), lv_has ls 4 [(0, .ref (ad g 7)), (1, .ref (ad g (cP i))), (2, .int v2), (3, .int v3)] → Wd g σ H → va_S (wA g) s.heap H locs → W p l e R s m args below meth c H locs 0 0 Q (F0 m 51 ls []) := by
        intro v2 v3 σ h H locs ls hl hP hS
        unfold f_Pa_nextHole_J51 at h
        obtain ⟨x1, ex1, h⟩ := lt_some h
        refine lv_iinc (lv' := [(3, .int x1), (0, .ref (ad g 7)), (1, .ref (ad g (cP i))), (2, .int v2)]) hx hb dPa_nextHole_51 hl (k := 3) rfl (q_inc ex1 (by decide)) (Nat.le_of_ble_eq_true rfl) rfl (fun ls hl => ?_)
        refine lv_goto (tgt := 4) hx hb dPa_nextHole_54 (by decide) ?_
        exact ih4 _ _ _ (K4 _ (Option.some.inj h).symm) _ _ _ (lv_sub hl [1, 2, 3, 0] rfl) hP hS
      have J50 : ∀ (v2 : Int32) (v3 : Int32) (u0 : Int32) (σ : Mem), f_Pa_nextHole_J50 i v2 v3 u0 σ = some o4 → ∀ (H : Heap) (locs : List Loc) (ls : Array Slot), lv_has ls 4 [(0, .ref (ad g 7)), (1, .ref (ad g (cP i))), (2, .int v2), (3, .int v3)] → Wd g σ H → va_S (wA g) s.heap H locs → W p l e R s m args below meth c H locs 0 0 Q (F0 m 50 ls [.int u0]) := by
        intro v2 v3 u0 σ h H locs ls hl hP hS
        unfold f_Pa_nextHole_J50 at h
        refine lv_istore_n (lv' := [(2, .int u0), (0, .ref (ad g 7)), (1, .ref (ad g (cP i))), (3, .int v3)]) hx hb dPa_nextHole_50 rfl hl (Nat.le_of_ble_eq_true rfl) rfl (fun ls hl => ?_)
        exact J51 _ _ _ h _ _ _ (lv_sub hl [1, 2, 0, 3] rfl) hP hS
      unfold f_Pa_nextHole_L4 at h
      refine lv_iload_n hx hb dPa_nextHole_4 rfl (lv_at hl 3 rfl) ?_
      refine lv_aload_n hx hb dPa_nextHole_5 rfl (lv_at hl 1 rfl) ?_
      refine g_Pr_size cx hP hi  t_46 dPa_nextHole_6 ?_
      refine lv_icmp_ge (tgt := 57) hx hb dPa_nextHole_9 (by decide) (fun hc => ?_) (fun hc => ?_)
      · replace h := if_t h hc
        obtain ⟨z2, h, ez2⟩ := inrM_some h
        rw [E4 z2 ez2] at h
        refine lv_iload_n hx hb dPa_nextHole_57 rfl (lv_at hl 2 rfl) ?_
        exact q_ri cx hr rfl hP hS hQ h dPa_nextHole_58
      · replace h := if_f h hc
        refine lv_aload_n hx hb dPa_nextHole_12 rfl (lv_at hl 1 rfl) ?_
        refine g_Pr_kinds cx hP hi  t_35 dPa_nextHole_13 ?_
        refine lv_iload_n hx hb dPa_nextHole_16 rfl (lv_at hl 3 rfl) ?_
        obtain ⟨b3, h⟩ := gd_some h
        refine q_iald cx hP (l_cPk hi) (e_cPk g hi) b3 dPa_nextHole_17 ?_
        refine lv_if_ne (tgt := 51) hx hb dPa_nextHole_18 (by decide) (fun hc => ?_) (fun hc => ?_)
        · replace h := if_f h hc
          exact J51 _ _ _ h _ _ _ (lv_sub hl [0, 1, 2, 3] rfl) hP hS
        · replace h := if_t h hc
          refine lv_aload_n hx hb dPa_nextHole_21 rfl (lv_at hl 0 rfl) ?_
          refine g_Pa_begins cx hP  t_113 dPa_nextHole_22 ?_
          refine lv_iload_n hx hb dPa_nextHole_25 rfl (lv_at hl 3 rfl) ?_
          obtain ⟨b4, h⟩ := gd_some h
          refine q_iald cx hP (by decide) (e_9 g) b4 dPa_nextHole_26 ?_
          refine lv_aload_n hx hb dPa_nextHole_27 rfl (lv_at hl 0 rfl) ?_
          refine g_Pa_begins cx hP  t_113 dPa_nextHole_28 ?_
          refine lv_aload_n hx hb dPa_nextHole_31 rfl (lv_at hl 1 rfl) ?_
          refine g_Pr_cursor cx hP hi  t_49 dPa_nextHole_32 ?_
          obtain ⟨b5, h⟩ := gd_some h
          refine q_iald cx hP (by decide) (e_9 g) b5 dPa_nextHole_35 ?_
          refine lv_icmp_le (tgt := 41) hx hb dPa_nextHole_36 (by decide) (fun hc => ?_) (fun hc => ?_)
          · replace h := if_t h hc
            refine lv_iload_n hx hb dPa_nextHole_41 rfl (lv_at hl 2 rfl) ?_
            refine lv_if_ge (tgt := 49) hx hb dPa_nextHole_42 (by decide) (fun hc => ?_) (fun hc => ?_)
            · replace h := if_t h hc
              refine lv_iload_n hx hb dPa_nextHole_49 rfl (lv_at hl 2 rfl) ?_
              exact J50 _ _ _ _ h _ _ _ (lv_sub hl [0, 1, 2, 3] rfl) hP hS
            · replace h := if_f h hc
              refine lv_iload_n hx hb dPa_nextHole_45 rfl (lv_at hl 3 rfl) ?_
              refine lv_goto (tgt := 50) hx hb dPa_nextHole_46 (by decide) ?_
              exact J50 _ _ _ _ h _ _ _ (lv_sub hl [0, 1, 2, 3] rfl) hP hS
          · replace h := if_f h hc
            obtain ⟨z6, h, ez6⟩ := inrM_some h
            rw [E4 z6 ez6] at h
            refine lv_iload_n hx hb dPa_nextHole_39 rfl (lv_at hl 3 rfl) ?_
            exact q_ri cx hr rfl hP hS hQ h dPa_nextHole_40
  exact L4 _ _ _ _ h _ _ _ (lv_sub hl [2, 3, 1, 0] rfl) hP hS
theorem dPa_innermost_0 : decode cPa_innermost 0 = .ok (.iconst (-1), 1) := by decide +kernel
theorem dPa_innermost_1 : decode cPa_innermost 1 = .ok (.istore_n 3, 1) := by decide +kernel
theorem dPa_innermost_2 : decode cPa_innermost 2 = .ok (.iconst 0, 1) := by decide +kernel
theorem dPa_innermost_3 : decode cPa_innermost 3 = .ok (.istore 4, 2) := by decide +kernel
theorem dPa_innermost_5 : decode cPa_innermost 5 = .ok (.iload 4, 2) := by decide +kernel
theorem dPa_innermost_7 : decode cPa_innermost 7 = .ok (.aload_n 1, 1) := by decide +kernel
theorem dPa_innermost_8 : decode cPa_innermost 8 = .ok (.getfield 35, 3) := by decide +kernel
theorem dPa_innermost_11 : decode cPa_innermost 11 = .ok (.if_icmp .ge 34, 3) := by decide +kernel
theorem dPa_innermost_14 : decode cPa_innermost 14 = .ok (.aload_n 0, 1) := by decide +kernel
theorem dPa_innermost_15 : decode cPa_innermost 15 = .ok (.getfield 15, 3) := by decide +kernel
theorem dPa_innermost_18 : decode cPa_innermost 18 = .ok (.iload 4, 2) := by decide +kernel
theorem dPa_innermost_20 : decode cPa_innermost 20 = .ok (.iaload, 1) := by decide +kernel
theorem dPa_innermost_21 : decode cPa_innermost 21 = .ok (.iload_n 2, 1) := by decide +kernel
theorem dPa_innermost_22 : decode cPa_innermost 22 = .ok (.if_icmp .gt 17, 3) := by decide +kernel
theorem dPa_innermost_25 : decode cPa_innermost 25 = .ok (.iload_n 2, 1) := by decide +kernel
theorem dPa_innermost_26 : decode cPa_innermost 26 = .ok (.aload_n 0, 1) := by decide +kernel
theorem dPa_innermost_27 : decode cPa_innermost 27 = .ok (.getfield 19, 3) := by decide +kernel
theorem dPa_innermost_30 : decode cPa_innermost 30 = .ok (.iload 4, 2) := by decide +kernel
theorem dPa_innermost_32 : decode cPa_innermost 32 = .ok (.iaload, 1) := by decide +kernel
theorem dPa_innermost_33 : decode cPa_innermost 33 = .ok (.if_icmp .ge 6, 3) := by decide +kernel
theorem dPa_innermost_36 : decode cPa_innermost 36 = .ok (.iload 4, 2) := by decide +kernel
theorem dPa_innermost_38 : decode cPa_innermost 38 = .ok (.istore_n 3, 1) := by decide +kernel
theorem dPa_innermost_39 : decode cPa_innermost 39 = .ok (.iinc 4 1, 3) := by decide +kernel
theorem dPa_innermost_42 : decode cPa_innermost 42 = .ok (.goto (-37), 3) := by decide +kernel
theorem dPa_innermost_45 : decode cPa_innermost 45 = .ok (.iload_n 3, 1) := by decide +kernel
theorem dPa_innermost_46 : decode cPa_innermost 46 = .ok (.ireturn, 1) := by decide +kernel
def f_Pa_innermost_J39 (i : Nat) (v2 : Int32) (v3 : Int32) (v4 : Int32) (σ : Mem) : Option ((Int32 × Int32 × Mem) ⊕ (Int32 × Mem)) :=
  lt_ (v4 + 1) fun (x1 : Int32) =>
  some (.inl (v3, x1, σ))
def f_Pa_innermost_L5 (i : Nat) (v2 : Int32) (v3 : Int32) (v4 : Int32) (σ : Mem) : Option ((Int32 × Int32 × Mem) ⊕ (Int32 × Mem)) :=
  if (σ.1 (cP i) 4) ≤ v4 then (
  inrM (some (v3, σ)))
  else (
  gd (inb v4 40) (
  if v2 < (σ.1 9 v4.toNatClampNeg) then (
  f_Pa_innermost_J39 i v2 v3 v4 σ)
  else (
  gd (inb v4 40) (
  if (σ.1 10 v4.toNatClampNeg) ≤ v2 then (
  f_Pa_innermost_J39 i v2 v3 v4 σ)
  else (
  f_Pa_innermost_J39 i v2 v4 v4 σ)))))
def f_Pa_innermost (i : Nat) (v2 : Int32) (σ : Mem) : Option (Int32 × Mem) :=
  lt_ ((-1) : Int32) fun (x5 : Int32) =>
  lt_ (0 : Int32) fun (x6 : Int32) =>
  loopF (fun (q : (Int32 × Int32 × Mem)) => f_Pa_innermost_L5 i v2 q.1 q.2.1 q.2.2) FU (x5, x6, σ)
set_option maxHeartbeats 4000000 in
set_option maxRecDepth 100000 in
theorem c_Pa_innermost (l : Launch) (g : Gw) (hg : wInj g) {i : Nat} (hi : i < 17) {v2 : Int32} {r0 : Int32} {σ σ0 : Mem} (h : f_Pa_innermost i v2 σ = some (r0, σ0)) : KI l yPa_innermost cPa_innermost 5 (some .int) 0 g [.ref (ad g 7), .ref (ad g (cP i)), .int v2] σ r0 σ0 := by
  refine q_met g hg (own := "TermBench$Page") rfl rfl (Nat.le_of_ble_eq_true rfl) (fun p e s m args below meth c R Q cx hRk hr hQ H locs ls hP hS hl => ?_)
  have hx := cx.1
  have hb := cx.2.1
  have hown := cx.2.2.2.1
  have hts := cx.2.2.2.2.1
  have hl : lv_has ls 5 [(0, .ref (ad g 7)), (1, .ref (ad g (cP i))), (2, .int v2)] := hl
  unfold f_Pa_innermost at h
  refine lv_iconst (v := (-1)) hx hb dPa_innermost_0 (by decide) ?_
  obtain ⟨x5, ex5, h⟩ := lt_some h
  refine q_nmi ex5 ?_
  refine lv_istore_n (lv' := [(3, .int x5), (0, .ref (ad g 7)), (1, .ref (ad g (cP i))), (2, .int v2)]) hx hb dPa_innermost_1 rfl hl (Nat.le_of_ble_eq_true rfl) rfl (fun ls hl => ?_)
  refine lv_iconst (v := 0) hx hb dPa_innermost_2 (by decide) ?_
  obtain ⟨x6, ex6, h⟩ := lt_some h
  refine q_nmi ex6 ?_
  refine lv_istore (lv' := [(4, .int x6), (3, .int x5), (0, .ref (ad g 7)), (1, .ref (ad g (cP i))), (2, .int v2)]) hx hb dPa_innermost_3 hl (Nat.le_of_ble_eq_true rfl) rfl (fun ls hl => ?_)
  have L5 : ∀ (n : Nat) (v2 : Int32) (v3 : Int32) (v4 : Int32) (σ : Mem), loopF (fun (q : (Int32 × Int32 × Mem)) => f_Pa_innermost_L5 i v2 q.1 q.2.1 q.2.2) n (v3, v4, σ) = some (r0, σ0) → ∀ (H : Heap) (locs : List Loc) (ls : Array Slot), lv_has ls 5 [(0, .ref (ad g 7)), (1, .ref (ad g (cP i))), (2, .int v2), (3, .int v3), (4, .int v4)] → Wd g σ H → va_S (wA g) s.heap H locs → W p l e R s m args below meth c H locs 0 0 Q (F0 m 5 ls []) := by
    intro n
    induction n with
    | zero => intro v2 v3 v4 σ h; exact (loopF_zero h).elim
    | succ n ih5 =>
      intro v2 v3 v4 σ h H locs ls hl hP hS
      obtain ⟨o5, h, K5, E5⟩ := loopF_succ h
      have h : f_Pa_innermost_L5 i v2 v3 v4 σ = some o5 := h
      have J39 : ∀ (v3 : Int32) (v4 : Int32) (σ : Mem), f_Pa_innermost_J39 i v2 v3 v4 σ = some o5 → ∀ (H : Heap) (locs : List Loc) (ls : Array Slot), lv_has ls 5 [(0, .ref (ad g 7)), (1, .ref (ad g (cP i))), (2, .int v2), (3, .int v3), (4, .int v4)] → Wd g σ H → va_S (wA g) s.heap H locs → W p l e R s m args below meth c H locs 0 0 Q (F0 m 39 ls []) := by
        intro v3 v4 σ h H locs ls hl hP hS
        unfold f_Pa_innermost_J39 at h
        obtain ⟨x1, ex1, h⟩ := lt_some h
        refine lv_iinc (lv' := [(4, .int x1), (0, .ref (ad g 7)), (1, .ref (ad g (cP i))), (2, .int v2), (3, .int v3)]) hx hb dPa_innermost_39 hl (k := 4) rfl (q_inc ex1 (by decide)) (Nat.le_of_ble_eq_true rfl) rfl (fun ls hl => ?_)
        refine lv_goto (tgt := 5) hx hb dPa_innermost_42 (by decide) ?_
        exact ih5 _ _ _ _ (K5 _ (Option.some.inj h).symm) _ _ _ (lv_sub hl [1, 2, 3, 4, 0] rfl) hP hS
      unfold f_Pa_innermost_L5 at h
      refine lv_iload hx hb dPa_innermost_5 (lv_at hl 4 rfl) ?_
      refine lv_aload_n hx hb dPa_innermost_7 rfl (lv_at hl 1 rfl) ?_
      refine g_Pr_size cx hP hi  t_46 dPa_innermost_8 ?_
      refine lv_icmp_ge (tgt := 45) hx hb dPa_innermost_11 (by decide) (fun hc => ?_) (fun hc => ?_)
      · replace h := if_t h hc
        obtain ⟨z2, h, ez2⟩ := inrM_some h
        rw [E5 z2 ez2] at h
        refine lv_iload_n hx hb dPa_innermost_45 rfl (lv_at hl 3 rfl) ?_
        exact q_ri cx hr rfl hP hS hQ h dPa_innermost_46
      · replace h := if_f h hc
        refine lv_aload_n hx hb dPa_innermost_14 rfl (lv_at hl 0 rfl) ?_
        refine g_Pa_begins cx hP  t_113 dPa_innermost_15 ?_
        refine lv_iload hx hb dPa_innermost_18 (lv_at hl 4 rfl) ?_
        obtain ⟨b3, h⟩ := gd_some h
        refine q_iald cx hP (by decide) (e_9 g) b3 dPa_innermost_20 ?_
        refine lv_iload_n hx hb dPa_innermost_21 rfl (lv_at hl 2 rfl) ?_
        refine lv_icmp_gt (tgt := 39) hx hb dPa_innermost_22 (by decide) (fun hc => ?_) (fun hc => ?_)
        · replace h := if_t h hc
          exact J39 _ _ _ h _ _ _ (lv_sub hl [0, 1, 2, 3, 4] rfl) hP hS
        · replace h := if_f h hc
          refine lv_iload_n hx hb dPa_innermost_25 rfl (lv_at hl 2 rfl) ?_
          refine lv_aload_n hx hb dPa_innermost_26 rfl (lv_at hl 0 rfl) ?_
          refine g_Pa_ends cx hP  t_115 dPa_innermost_27 ?_
          refine lv_iload hx hb dPa_innermost_30 (lv_at hl 4 rfl) ?_
          obtain ⟨b4, h⟩ := gd_some h
          refine q_iald cx hP (by decide) (e_10 g) b4 dPa_innermost_32 ?_
          refine lv_icmp_ge (tgt := 39) hx hb dPa_innermost_33 (by decide) (fun hc => ?_) (fun hc => ?_)
          · replace h := if_t h hc
            exact J39 _ _ _ h _ _ _ (lv_sub hl [0, 1, 2, 3, 4] rfl) hP hS
          · replace h := if_f h hc
            refine lv_iload hx hb dPa_innermost_36 (lv_at hl 4 rfl) ?_
            refine lv_istore_n (lv' := [(3, .int v4), (0, .ref (ad g 7)), (1, .ref (ad g (cP i))), (2, .int v2), (4, .int v4)]) hx hb dPa_innermost_38 rfl hl (Nat.le_of_ble_eq_true rfl) rfl (fun ls hl => ?_)
            exact J39 _ _ _ h _ _ _ (lv_sub hl [1, 2, 3, 0, 4] rfl) hP hS
  exact L5 _ _ _ _ _ h _ _ _ (lv_sub hl [2, 3, 4, 1, 0] rfl) hP hS
theorem dPa_eightOf_0 : decode cPa_eightOf 0 = .ok (.iload_n 1, 1) := by decide +kernel
theorem dPa_eightOf_1 : decode cPa_eightOf 1 = .ok (.ifCond .lt 21, 3) := by decide +kernel
theorem dPa_eightOf_4 : decode cPa_eightOf 4 = .ok (.iload_n 1, 1) := by decide +kernel
theorem dPa_eightOf_5 : decode cPa_eightOf 5 = .ok (.aload_n 0, 1) := by decide +kernel
theorem dPa_eightOf_6 : decode cPa_eightOf 6 = .ok (.getfield 11, 3) := by decide +kernel
theorem dPa_eightOf_9 : decode cPa_eightOf 9 = .ok (.arraylength, 1) := by decide +kernel
theorem dPa_eightOf_10 : decode cPa_eightOf 10 = .ok (.if_icmp .ge 12, 3) := by decide +kernel
theorem dPa_eightOf_13 : decode cPa_eightOf 13 = .ok (.aload_n 0, 1) := by decide +kernel
theorem dPa_eightOf_14 : decode cPa_eightOf 14 = .ok (.getfield 11, 3) := by decide +kernel
theorem dPa_eightOf_17 : decode cPa_eightOf 17 = .ok (.iload_n 1, 1) := by decide +kernel
theorem dPa_eightOf_18 : decode cPa_eightOf 18 = .ok (.laload, 1) := by decide +kernel
theorem dPa_eightOf_19 : decode cPa_eightOf 19 = .ok (.goto 4, 3) := by decide +kernel
theorem dPa_eightOf_22 : decode cPa_eightOf 22 = .ok (.lconst 0, 1) := by decide +kernel
theorem dPa_eightOf_23 : decode cPa_eightOf 23 = .ok (.lreturn, 1) := by decide +kernel
def f_Pa_eightOf_J23  (v1 : Int32) (u0 : Int64) (σ : Mem) : Option (Int64 × Mem) :=
  some (u0, σ)
def f_Pa_eightOf_J22  (v1 : Int32) (σ : Mem) : Option (Int64 × Mem) :=
  f_Pa_eightOf_J23 v1 (0 : Int64) σ
def f_Pa_eightOf  (v1 : Int32) (σ : Mem) : Option (Int64 × Mem) :=
  if v1 < 0 then (
  f_Pa_eightOf_J22 v1 σ)
  else (
  if (220 : Int32) ≤ v1 then (
  f_Pa_eightOf_J22 v1 σ)
  else (
  gd (inb v1 220) (
  f_Pa_eightOf_J23 v1 (σ.2 8 v1.toNatClampNeg) σ)))
set_option maxHeartbeats 4000000 in
set_option maxRecDepth 100000 in
theorem c_Pa_eightOf (l : Launch) (g : Gw) (hg : wInj g) {v1 : Int32} {r0 : Int64} {σ σ0 : Mem} (h : f_Pa_eightOf v1 σ = some (r0, σ0)) : KL l yPa_eightOf cPa_eightOf 2 (some .long) 0 g [.ref (ad g 7), .int v1] σ r0 σ0 := by
  refine q_met g hg (own := "TermBench$Page") rfl rfl (Nat.le_of_ble_eq_true rfl) (fun p e s m args below meth c R Q cx hRk hr hQ H locs ls hP hS hl => ?_)
  have hx := cx.1
  have hb := cx.2.1
  have hown := cx.2.2.2.1
  have hts := cx.2.2.2.2.1
  have hl : lv_has ls 2 [(0, .ref (ad g 7)), (1, .int v1)] := hl
  have J23 : ∀ (v1 : Int32) (u0 : Int64) (σ : Mem), f_Pa_eightOf_J23 v1 u0 σ = some (r0, σ0) → ∀ (H : Heap) (locs : List Loc) (ls : Array Slot), lv_has ls 2 [(0, .ref (ad g 7)), (1, .int v1)] → Wd g σ H → va_S (wA g) s.heap H locs → W p l e R s m args below meth c H locs 0 0 Q (F0 m 23 ls [.long u0]) := by
    intro v1 u0 σ h H locs ls hl hP hS
    unfold f_Pa_eightOf_J23 at h
    exact q_rl cx hr hP hS hQ h dPa_eightOf_23
  have J22 : ∀ (v1 : Int32) (σ : Mem), f_Pa_eightOf_J22 v1 σ = some (r0, σ0) → ∀ (H : Heap) (locs : List Loc) (ls : Array Slot), lv_has ls 2 [(0, .ref (ad g 7)), (1, .int v1)] → Wd g σ H → va_S (wA g) s.heap H locs → W p l e R s m args below meth c H locs 0 0 Q (F0 m 22 ls []) := by
    intro v1 σ h H locs ls hl hP hS
    unfold f_Pa_eightOf_J22 at h
    refine lv_lconst (v := 0) hx hb dPa_eightOf_22 rfl ?_
    exact J23 _ _ _ h _ _ _ (lv_sub hl [0, 1] rfl) hP hS
  unfold f_Pa_eightOf at h
  refine lv_iload_n hx hb dPa_eightOf_0 rfl (lv_at hl 1 rfl) ?_
  refine lv_if_lt (tgt := 22) hx hb dPa_eightOf_1 (by decide) (fun hc => ?_) (fun hc => ?_)
  · replace h := if_t h hc
    exact J22 _ _ h _ _ _ (lv_sub hl [0, 1] rfl) hP hS
  · replace h := if_f h hc
    refine lv_iload_n hx hb dPa_eightOf_4 rfl (lv_at hl 1 rfl) ?_
    refine lv_aload_n hx hb dPa_eightOf_5 rfl (lv_at hl 0 rfl) ?_
    refine g_Pa_words cx hP  t_112 dPa_eightOf_6 ?_
    refine q_alenL (v := 220) cx hP (by decide) (e_8 g) rfl dPa_eightOf_9 ?_
    refine lv_icmp_ge (tgt := 22) hx hb dPa_eightOf_10 (by decide) (fun hc => ?_) (fun hc => ?_)
    · replace h := if_t h hc
      exact J22 _ _ h _ _ _ (lv_sub hl [0, 1] rfl) hP hS
    · replace h := if_f h hc
      refine lv_aload_n hx hb dPa_eightOf_13 rfl (lv_at hl 0 rfl) ?_
      refine g_Pa_words cx hP  t_112 dPa_eightOf_14 ?_
      refine lv_iload_n hx hb dPa_eightOf_17 rfl (lv_at hl 1 rfl) ?_
      obtain ⟨b1, h⟩ := gd_some h
      refine q_lald cx hP (by decide) (e_8 g) b1 dPa_eightOf_18 ?_
      refine lv_goto (tgt := 23) hx hb dPa_eightOf_19 (by decide) ?_
      exact J23 _ _ _ h _ _ _ (lv_sub hl [0, 1] rfl) hP hS
