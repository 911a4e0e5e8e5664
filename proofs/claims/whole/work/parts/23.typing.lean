/-! 23.typing, by program: pure functions and contracts -/
theorem dTg_typeName_0 : decode cTg_typeName 0 = .ok (.aload_n 1, 1) := by decide +kernel
theorem dTg_typeName_1 : decode cTg_typeName 1 = .ok (.iload_n 2, 1) := by decide +kernel
theorem dTg_typeName_2 : decode cTg_typeName 2 = .ok (.invokevirtual 64, 3) := by decide +kernel
theorem dTg_typeName_5 : decode cTg_typeName 5 = .ok (.istore_n 3, 1) := by decide +kernel
theorem dTg_typeName_6 : decode cTg_typeName 6 = .ok (.iload_n 3, 1) := by decide +kernel
theorem dTg_typeName_7 : decode cTg_typeName 7 = .ok (.ifCond .ge 12, 3) := by decide +kernel
theorem dTg_typeName_10 : decode cTg_typeName 10 = .ok (.aload_n 0, 1) := by decide +kernel
theorem dTg_typeName_11 : decode cTg_typeName 11 = .ok (.getfield 18, 3) := by decide +kernel
theorem dTg_typeName_14 : decode cTg_typeName 14 = .ok (.iload_n 2, 1) := by decide +kernel
theorem dTg_typeName_15 : decode cTg_typeName 15 = .ok (.iconst 1, 1) := by decide +kernel
theorem dTg_typeName_16 : decode cTg_typeName 16 = .ok (.iastore, 1) := by decide +kernel
theorem dTg_typeName_17 : decode cTg_typeName 17 = .ok (.lconst 1, 1) := by decide +kernel
theorem dTg_typeName_18 : decode cTg_typeName 18 = .ok (.lreturn, 1) := by decide +kernel
theorem dTg_typeName_19 : decode cTg_typeName 19 = .ok (.aload_n 1, 1) := by decide +kernel
theorem dTg_typeName_20 : decode cTg_typeName 20 = .ok (.getfield 61, 3) := by decide +kernel
theorem dTg_typeName_23 : decode cTg_typeName 23 = .ok (.iload_n 3, 1) := by decide +kernel
theorem dTg_typeName_24 : decode cTg_typeName 24 = .ok (.laload, 1) := by decide +kernel
theorem dTg_typeName_25 : decode cTg_typeName 25 = .ok (.lreturn, 1) := by decide +kernel
def f_Tg_typeName (i : Nat) (v2 : Int32) (σ : Mem) : Option (Int64 × Mem) :=
  bn (f_Pr_binder i v2 σ) fun (r3 : Int32) (σ2 : Mem) =>
  if 0 ≤ r3 then (
  gd (inb r3 40) (
  some (σ2.2 (cPt i) r3.toNatClampNeg, σ2)))
  else (
  gd (inb v2 40) (lt_ (sI σ2 6 v2.toNatClampNeg (1 : Int32)) fun (σ6 : Mem) =>
  some ((1 : Int64), σ6)))
set_option maxHeartbeats 4000000 in
set_option maxRecDepth 100000 in
theorem c_Tg_typeName (l : Launch) (g : Gw) (hg : wInj g) {i : Nat} (hi : i < 17) {v2 : Int32} {r0 : Int64} {σ σ0 : Mem} (h : f_Tg_typeName i v2 σ = some (r0, σ0)) : KL l yTg_typeName cTg_typeName 4 (some .long) 1 g [.ref (ad g 3), .ref (ad g (cP i)), .int v2] σ r0 σ0 := by
  refine q_met g hg (own := "TermBench$Typing") rfl rfl (Nat.le_of_ble_eq_true rfl) (fun p e s m args below meth c R Q cx hRk hr hQ H locs ls hP hS hl => ?_)
  have hx := cx.1
  have hb := cx.2.1
  have hown := cx.2.2.2.1
  have hts := cx.2.2.2.2.1
  have hl : lv_has ls 4 [(0, .ref (ad g 3)), (1, .ref (ad g (cP i))), (2, .int v2)] := hl
  unfold f_Tg_typeName at h
  refine lv_aload_n hx hb dTg_typeName_0 rfl (lv_at hl 1 rfl) ?_
  refine lv_iload_n hx hb dTg_typeName_1 rfl (lv_at hl 2 rfl) ?_
  obtain ⟨r3, σ2, h1, h⟩ := bn_some h
  refine q_cVi (rest := []) (As := [.int v2]) cx hP hS hRk (c_Pr_binder l g hg hi h1) Y_Pr_binder V_Pr_binder t_423 (by decide) (l_cP hi) (e_cP g hi _ _) rfl rfl hl.1 rfl (Nat.le_of_ble_eq_true rfl) dTg_typeName_2 (fun H locs hP hS => ?_)
  refine lv_istore_n (lv' := [(3, .int r3), (0, .ref (ad g 3)), (1, .ref (ad g (cP i))), (2, .int v2)]) hx hb dTg_typeName_5 rfl hl (Nat.le_of_ble_eq_true rfl) rfl (fun ls hl => ?_)
  refine lv_iload_n hx hb dTg_typeName_6 rfl (lv_at hl 0 rfl) ?_
  refine lv_if_ge (tgt := 19) hx hb dTg_typeName_7 (by decide) (fun hc => ?_) (fun hc => ?_)
  · replace h := if_t h hc
    refine lv_aload_n hx hb dTg_typeName_19 rfl (lv_at hl 2 rfl) ?_
    refine g_Pr_types cx hP hi  t_42 dTg_typeName_20 ?_
    refine lv_iload_n hx hb dTg_typeName_23 rfl (lv_at hl 0 rfl) ?_
    obtain ⟨b4, h⟩ := gd_some h
    refine q_lald cx hP (l_cPt hi) (e_cPt g hi) b4 dTg_typeName_24 ?_
    exact q_rl cx hr hP hS hQ h dTg_typeName_25
  · replace h := if_f h hc
    refine lv_aload_n hx hb dTg_typeName_10 rfl (lv_at hl 1 rfl) ?_
    refine g_Tg_marks cx hP  t_93 dTg_typeName_11 ?_
    refine lv_iload_n hx hb dTg_typeName_14 rfl (lv_at hl 3 rfl) ?_
    refine lv_iconst (v := 1) hx hb dTg_typeName_15 (by decide) ?_
    obtain ⟨b5, h⟩ := gd_some h
    obtain ⟨σ6, eσ6, h⟩ := lt_some h
    refine q_iast cx hP hS (by decide) (e_6 g) b5 dTg_typeName_16 eσ6 (fun H locs hP hS => ?_)
    refine lv_lconst (v := 1) hx hb dTg_typeName_17 rfl ?_
    exact q_rl cx hr hP hS hQ h dTg_typeName_18
theorem dTg_typeCall_0 : decode cTg_typeCall 0 = .ok (.aload_n 0, 1) := by decide +kernel
theorem dTg_typeCall_1 : decode cTg_typeCall 1 = .ok (.aload_n 1, 1) := by decide +kernel
theorem dTg_typeCall_2 : decode cTg_typeCall 2 = .ok (.aload_n 1, 1) := by decide +kernel
theorem dTg_typeCall_3 : decode cTg_typeCall 3 = .ok (.iload_n 2, 1) := by decide +kernel
theorem dTg_typeCall_4 : decode cTg_typeCall 4 = .ok (.iconst 0, 1) := by decide +kernel
theorem dTg_typeCall_5 : decode cTg_typeCall 5 = .ok (.invokevirtual 47, 3) := by decide +kernel
theorem dTg_typeCall_8 : decode cTg_typeCall 8 = .ok (.lconst 0, 1) := by decide +kernel
theorem dTg_typeCall_9 : decode cTg_typeCall 9 = .ok (.iload_n 3, 1) := by decide +kernel
theorem dTg_typeCall_10 : decode cTg_typeCall 10 = .ok (.iconst 1, 1) := by decide +kernel
theorem dTg_typeCall_11 : decode cTg_typeCall 11 = .ok (.iadd, 1) := by decide +kernel
theorem dTg_typeCall_12 : decode cTg_typeCall 12 = .ok (.invokevirtual 51, 3) := by decide +kernel
theorem dTg_typeCall_15 : decode cTg_typeCall 15 = .ok (.lstore 4, 2) := by decide +kernel
theorem dTg_typeCall_17 : decode cTg_typeCall 17 = .ok (.lload 4, 2) := by decide +kernel
theorem dTg_typeCall_19 : decode cTg_typeCall 19 = .ok (.invokestatic 68, 3) := by decide +kernel
theorem dTg_typeCall_22 : decode cTg_typeCall 22 = .ok (.istore 6, 2) := by decide +kernel
theorem dTg_typeCall_24 : decode cTg_typeCall 24 = .ok (.iload 6, 2) := by decide +kernel
theorem dTg_typeCall_26 : decode cTg_typeCall 26 = .ok (.ifCond .eq 11, 3) := by decide +kernel
theorem dTg_typeCall_29 : decode cTg_typeCall 29 = .ok (.lload 4, 2) := by decide +kernel
theorem dTg_typeCall_31 : decode cTg_typeCall 31 = .ok (.invokestatic 72, 3) := by decide +kernel
theorem dTg_typeCall_34 : decode cTg_typeCall 34 = .ok (.goto 4, 3) := by decide +kernel
theorem dTg_typeCall_37 : decode cTg_typeCall 37 = .ok (.lconst 1, 1) := by decide +kernel
theorem dTg_typeCall_38 : decode cTg_typeCall 38 = .ok (.lstore 7, 2) := by decide +kernel
theorem dTg_typeCall_40 : decode cTg_typeCall 40 = .ok (.aload_n 0, 1) := by decide +kernel
theorem dTg_typeCall_41 : decode cTg_typeCall 41 = .ok (.aload_n 1, 1) := by decide +kernel
theorem dTg_typeCall_42 : decode cTg_typeCall 42 = .ok (.aload_n 1, 1) := by decide +kernel
theorem dTg_typeCall_43 : decode cTg_typeCall 43 = .ok (.iload_n 2, 1) := by decide +kernel
theorem dTg_typeCall_44 : decode cTg_typeCall 44 = .ok (.iconst 1, 1) := by decide +kernel
theorem dTg_typeCall_45 : decode cTg_typeCall 45 = .ok (.invokevirtual 47, 3) := by decide +kernel
theorem dTg_typeCall_48 : decode cTg_typeCall 48 = .ok (.lload 7, 2) := by decide +kernel
theorem dTg_typeCall_50 : decode cTg_typeCall 50 = .ok (.iload_n 3, 1) := by decide +kernel
theorem dTg_typeCall_51 : decode cTg_typeCall 51 = .ok (.iconst 1, 1) := by decide +kernel
theorem dTg_typeCall_52 : decode cTg_typeCall 52 = .ok (.iadd, 1) := by decide +kernel
theorem dTg_typeCall_53 : decode cTg_typeCall 53 = .ok (.invokevirtual 51, 3) := by decide +kernel
theorem dTg_typeCall_56 : decode cTg_typeCall 56 = .ok (.pop2, 1) := by decide +kernel
theorem dTg_typeCall_57 : decode cTg_typeCall 57 = .ok (.lload 4, 2) := by decide +kernel
theorem dTg_typeCall_59 : decode cTg_typeCall 59 = .ok (.ldc2_w 41, 3) := by decide +kernel
theorem dTg_typeCall_62 : decode cTg_typeCall 62 = .ok (.lcmp, 1) := by decide +kernel
theorem dTg_typeCall_63 : decode cTg_typeCall 63 = .ok (.ifCond .ne 10, 3) := by decide +kernel
theorem dTg_typeCall_66 : decode cTg_typeCall 66 = .ok (.aload_n 0, 1) := by decide +kernel
theorem dTg_typeCall_67 : decode cTg_typeCall 67 = .ok (.getfield 18, 3) := by decide +kernel
theorem dTg_typeCall_70 : decode cTg_typeCall 70 = .ok (.iload_n 2, 1) := by decide +kernel
theorem dTg_typeCall_71 : decode cTg_typeCall 71 = .ok (.iconst 2, 1) := by decide +kernel
theorem dTg_typeCall_72 : decode cTg_typeCall 72 = .ok (.iastore, 1) := by decide +kernel
theorem dTg_typeCall_73 : decode cTg_typeCall 73 = .ok (.iload 6, 2) := by decide +kernel
theorem dTg_typeCall_75 : decode cTg_typeCall 75 = .ok (.ifCond .eq 11, 3) := by decide +kernel
theorem dTg_typeCall_78 : decode cTg_typeCall 78 = .ok (.lload 4, 2) := by decide +kernel
theorem dTg_typeCall_80 : decode cTg_typeCall 80 = .ok (.invokestatic 76, 3) := by decide +kernel
theorem dTg_typeCall_83 : decode cTg_typeCall 83 = .ok (.goto 4, 3) := by decide +kernel
theorem dTg_typeCall_86 : decode cTg_typeCall 86 = .ok (.lconst 1, 1) := by decide +kernel
theorem dTg_typeCall_87 : decode cTg_typeCall 87 = .ok (.lreturn, 1) := by decide +kernel
def f_Tg_typeCall_J87 (rc : Nat → Int32 → Int64 → Int32 → Mem → Option (Int64 × Mem)) (i : Nat) (v2 : Int32) (v3 : Int32) (v4 : Int64) (v6 : Int32) (v7 : Int64) (u0 : Int64) (σ : Mem) : Option (Int64 × Mem) :=
  some (u0, σ)
def f_Tg_typeCall_J73 (rc : Nat → Int32 → Int64 → Int32 → Mem → Option (Int64 × Mem)) (i : Nat) (v2 : Int32) (v3 : Int32) (v4 : Int64) (v6 : Int32) (v7 : Int64) (σ : Mem) : Option (Int64 × Mem) :=
  if v6 = 0 then (
  f_Tg_typeCall_J87 rc i v2 v3 v4 v6 v7 (1 : Int64) σ)
  else (
  bn (f_Ty_given v4 σ) fun (r3 : Int64) (σ2 : Mem) =>
  f_Tg_typeCall_J87 rc i v2 v3 v4 v6 v7 r3 σ2)
def f_Tg_typeCall_J38 (rc : Nat → Int32 → Int64 → Int32 → Mem → Option (Int64 × Mem)) (i : Nat) (v2 : Int32) (v3 : Int32) (v4 : Int64) (v6 : Int32) (u0 : Int64) (σ : Mem) : Option (Int64 × Mem) :=
  bn (f_Pr_part i v2 (1 : Int32) σ) fun (r6 : Int32) (σ5 : Mem) =>
  bn (rc i r6 u0 (v3 + (1 : Int32)) σ5) fun (r9 : Int64) (σ8 : Mem) =>
  if (lg_cmp v4 (2 : Int64)) = 0 then (
  gd (inb v2 40) (lt_ (sI σ8 6 v2.toNatClampNeg (2 : Int32)) fun (σ11 : Mem) =>
  f_Tg_typeCall_J73 rc i v2 v3 v4 v6 u0 σ11))
  else (
  f_Tg_typeCall_J73 rc i v2 v3 v4 v6 u0 σ8)
def f_Tg_typeCall (rc : Nat → Int32 → Int64 → Int32 → Mem → Option (Int64 × Mem)) (i : Nat) (v2 : Int32) (v3 : Int32) (σ : Mem) : Option (Int64 × Mem) :=
  bn (f_Pr_part i v2 (0 : Int32) σ) fun (r14 : Int32) (σ13 : Mem) =>
  bn (rc i r14 (0 : Int64) (v3 + (1 : Int32)) σ13) fun (r17 : Int64) (σ16 : Mem) =>
  bn (f_Ty_isFrom r17 σ16) fun (r20 : Int32) (σ19 : Mem) =>
  if r20 = 0 then (
  f_Tg_typeCall_J38 rc i v2 v3 r17 r20 (1 : Int64) σ19)
  else (
  bn (f_Ty_taken r17 σ19) fun (r23 : Int64) (σ22 : Mem) =>
  f_Tg_typeCall_J38 rc i v2 v3 r17 r20 r23 σ22)
set_option maxHeartbeats 4000000 in
set_option maxRecDepth 100000 in
theorem c_Tg_typeCall (l : Launch) (g : Gw) (hg : wInj g) {rc : Nat → Int32 → Int64 → Int32 → Mem → Option (Int64 × Mem)} {d0 : Nat} (hd0 : 31 ≤ d0) (hrc : ∀ {i : Nat} (hi : i < 17) {v2 : Int32} {v3 : Int64} {v5 : Int32} {r0 : Int64} {σ σ0 : Mem}, rc i v2 v3 v5 σ = some (r0, σ0) → KL l yTg_typeTerm cTg_typeTerm 8 (some .long) d0 g [.ref (ad g 3), .ref (ad g (cP i)), .int v2, .long v3, .int v5] σ r0 σ0) {i : Nat} (hi : i < 17) {v2 : Int32} {v3 : Int32} {r0 : Int64} {σ σ0 : Mem} (h : f_Tg_typeCall rc i v2 v3 σ = some (r0, σ0)) : KL l yTg_typeCall cTg_typeCall 9 (some .long) (d0 + 1) g [.ref (ad g 3), .ref (ad g (cP i)), .int v2, .int v3] σ r0 σ0 := by
  refine q_met g hg (own := "TermBench$Typing") rfl rfl (Nat.le_of_ble_eq_true rfl) (fun p e s m args below meth c R Q cx hRk hr hQ H locs ls hP hS hl => ?_)
  have hx := cx.1
  have hb := cx.2.1
  have hown := cx.2.2.2.1
  have hts := cx.2.2.2.2.1
  have hl : lv_has ls 9 [(0, .ref (ad g 3)), (1, .ref (ad g (cP i))), (2, .int v2), (3, .int v3)] := hl
  have J87 : ∀ (v2 : Int32) (v3 : Int32) (v4 : Int64) (v6 : Int32) (v7 : Int64) (u0 : Int64) (σ : Mem), f_Tg_typeCall_J87 rc i v2 v3 v4 v6 v7 u0 σ = some (r0, σ0) → ∀ (H : Heap) (locs : List Loc) (ls : Array Slot), lv_has ls 9 [(0, .ref (ad g 3)), (1, .ref (ad g (cP i))), (2, .int v2), (3, .int v3), (4, .long v4), (6, .int v6), (7, .long v7)] → Wd g σ H → va_S (wA g) s.heap H locs → W p l e R s m args below meth c H locs 0 0 Q (F0 m 87 ls [.long u0]) := by
    intro v2 v3 v4 v6 v7 u0 σ h H locs ls hl hP hS
    unfold f_Tg_typeCall_J87 at h
    exact q_rl cx hr hP hS hQ h dTg_typeCall_87
  have J73 : ∀ (v2 : Int32) (v3 : Int32) (v4 : Int64) (v6 : Int32) (v7 : Int64) (σ : Mem), f_Tg_typeCall_J73 rc i v2 v3 v4 v6 v7 σ = some (r0, σ0) → ∀ (H : Heap) (locs : List Loc) (ls : Array Slot), lv_has ls 9 [(0, .ref (ad g 3)), (1, .ref (ad g (cP i))), (2, .int v2), (3, .int v3), (4, .long v4), (6, .int v6), (7, .long v7)] → Wd g σ H → va_S (wA g) s.heap H locs → W p l e R s m args below meth c H locs 0 0 Q (F0 m 73 ls []) := by
    intro v2 v3 v4 v6 v7 σ h H locs ls hl hP hS
    unfold f_Tg_typeCall_J73 at h
    refine lv_iload hx hb dTg_typeCall_73 (lv_at hl 5 rfl) ?_
    refine lv_if_eq (tgt := 86) hx hb dTg_typeCall_75 (by decide) (fun hc => ?_) (fun hc => ?_)
    · replace h := if_t h hc
      refine lv_lconst (v := 1) hx hb dTg_typeCall_86 rfl ?_
      exact J87 _ _ _ _ _ _ _ h _ _ _ (lv_sub hl [0, 1, 2, 3, 4, 5, 6] rfl) hP hS
    · replace h := if_f h hc
      refine lv_lload hx hb dTg_typeCall_78 (lv_at hl 4 rfl) ?_
      obtain ⟨r3, σ2, h1, h⟩ := bn_some h
      refine q_cSl (rest := []) (As := [.long v4]) cx hP hS hRk (c_Ty_given l g hg h1) Y_Ty_given S_Ty_given t_435 (by omega) rfl hl.1 rfl (Nat.le_of_ble_eq_true rfl) dTg_typeCall_80 (fun H locs hP hS => ?_)
      refine lv_goto (tgt := 87) hx hb dTg_typeCall_83 (by decide) ?_
      exact J87 _ _ _ _ _ _ _ h _ _ _ (lv_sub hl [0, 1, 2, 3, 4, 5, 6] rfl) hP hS
  have J38 : ∀ (v2 : Int32) (v3 : Int32) (v4 : Int64) (v6 : Int32) (u0 : Int64) (σ : Mem), f_Tg_typeCall_J38 rc i v2 v3 v4 v6 u0 σ = some (r0, σ0) → ∀ (H : Heap) (locs : List Loc) (ls : Array Slot), lv_has ls 9 [(0, .ref (ad g 3)), (1, .ref (ad g (cP i))), (2, .int v2), (3, .int v3), (4, .long v4), (6, .int v6)] → Wd g σ H → va_S (wA g) s.heap H locs → W p l e R s m args below meth c H locs 0 0 Q (F0 m 38 ls [.long u0]) := by
    intro v2 v3 v4 v6 u0 σ h H locs ls hl hP hS
    unfold f_Tg_typeCall_J38 at h
    refine lv_lstore (lv' := [(7, .long u0), (0, .ref (ad g 3)), (1, .ref (ad g (cP i))), (2, .int v2), (3, .int v3), (4, .long v4), (6, .int v6)]) hx hb dTg_typeCall_38 hl (Nat.le_of_ble_eq_true rfl) rfl (fun ls hl => ?_)
    refine lv_aload_n hx hb dTg_typeCall_40 rfl (lv_at hl 1 rfl) ?_
    refine lv_aload_n hx hb dTg_typeCall_41 rfl (lv_at hl 2 rfl) ?_
    refine lv_aload_n hx hb dTg_typeCall_42 rfl (lv_at hl 2 rfl) ?_
    refine lv_iload_n hx hb dTg_typeCall_43 rfl (lv_at hl 3 rfl) ?_
    refine lv_iconst (v := 1) hx hb dTg_typeCall_44 (by decide) ?_
    obtain ⟨r6, σ5, h4, h⟩ := bn_some h
    refine q_cVi (rest := [.ref (ad g (cP i)), .ref (ad g 3)]) (As := [.int v2, .int (1 : Int32)]) cx hP hS hRk (c_Pr_part l g hg hi h4) Y_Pr_part V_Pr_part t_427 (by omega) (l_cP hi) (e_cP g hi _ _) rfl rfl hl.1 rfl (Nat.le_of_ble_eq_true rfl) dTg_typeCall_45 (fun H locs hP hS => ?_)
    refine lv_lload hx hb dTg_typeCall_48 (lv_at hl 0 rfl) ?_
    refine lv_iload_n hx hb dTg_typeCall_50 rfl (lv_at hl 4 rfl) ?_
    refine lv_iconst (v := 1) hx hb dTg_typeCall_51 (by decide) ?_
    refine lv_iadd hx hb dTg_typeCall_52 ?_
    obtain ⟨r9, σ8, h7, h⟩ := bn_some h
    refine q_cVl (rest := []) (As := [.ref (ad g (cP i)), .int r6, .long u0, .int (v3 + (1 : Int32))]) cx hP hS hRk (hrc hi h7) Y_Tg_typeTerm V_Tg_typeTerm t_428 (by omega) (by decide) (e_3 g _ _) rfl rfl hl.1 rfl (Nat.le_of_ble_eq_true rfl) dTg_typeCall_53 (fun H locs hP hS => ?_)
    refine lv_pop2_2 hx hb dTg_typeCall_56 rfl ?_
    refine lv_lload hx hb dTg_typeCall_57 (lv_at hl 5 rfl) ?_
    refine lv_ldc2 (own := "TermBench$Typing") (index := 41) (v := 2) hx hb hown (hts _ t_418) dTg_typeCall_59 ?_
    refine W.lcmp hx hb dTg_typeCall_62 ?_
    refine lv_if_ne (tgt := 73) hx hb dTg_typeCall_63 (by decide) (fun hc => ?_) (fun hc => ?_)
    · replace h := if_f h hc
      exact J73 _ _ _ _ _ _ h _ _ _ (lv_sub hl [1, 2, 3, 4, 5, 6, 0] rfl) hP hS
    · replace h := if_t h hc
      refine lv_aload_n hx hb dTg_typeCall_66 rfl (lv_at hl 1 rfl) ?_
      refine g_Tg_marks cx hP  t_93 dTg_typeCall_67 ?_
      refine lv_iload_n hx hb dTg_typeCall_70 rfl (lv_at hl 3 rfl) ?_
      refine lv_iconst (v := 2) hx hb dTg_typeCall_71 (by decide) ?_
      obtain ⟨b10, h⟩ := gd_some h
      obtain ⟨σ11, eσ11, h⟩ := lt_some h
      refine q_iast cx hP hS (by decide) (e_6 g) b10 dTg_typeCall_72 eσ11 (fun H locs hP hS => ?_)
      exact J73 _ _ _ _ _ _ h _ _ _ (lv_sub hl [1, 2, 3, 4, 5, 6, 0] rfl) hP hS
  unfold f_Tg_typeCall at h
  refine lv_aload_n hx hb dTg_typeCall_0 rfl (lv_at hl 0 rfl) ?_
  refine lv_aload_n hx hb dTg_typeCall_1 rfl (lv_at hl 1 rfl) ?_
  refine lv_aload_n hx hb dTg_typeCall_2 rfl (lv_at hl 1 rfl) ?_
  refine lv_iload_n hx hb dTg_typeCall_3 rfl (lv_at hl 2 rfl) ?_
  refine lv_iconst (v := 0) hx hb dTg_typeCall_4 (by decide) ?_
  obtain ⟨r14, σ13, h12, h⟩ := bn_some h
  refine q_cVi (rest := [.ref (ad g (cP i)), .ref (ad g 3)]) (As := [.int v2, .int (0 : Int32)]) cx hP hS hRk (c_Pr_part l g hg hi h12) Y_Pr_part V_Pr_part t_427 (by omega) (l_cP hi) (e_cP g hi _ _) rfl rfl hl.1 rfl (Nat.le_of_ble_eq_true rfl) dTg_typeCall_5 (fun H locs hP hS => ?_)
  refine lv_lconst (v := 0) hx hb dTg_typeCall_8 rfl ?_
  refine lv_iload_n hx hb dTg_typeCall_9 rfl (lv_at hl 3 rfl) ?_
  refine lv_iconst (v := 1) hx hb dTg_typeCall_10 (by decide) ?_
  refine lv_iadd hx hb dTg_typeCall_11 ?_
  obtain ⟨r17, σ16, h15, h⟩ := bn_some h
  refine q_cVl (rest := []) (As := [.ref (ad g (cP i)), .int r14, .long (0 : Int64), .int (v3 + (1 : Int32))]) cx hP hS hRk (hrc hi h15) Y_Tg_typeTerm V_Tg_typeTerm t_428 (by omega) (by decide) (e_3 g _ _) rfl rfl hl.1 rfl (Nat.le_of_ble_eq_true rfl) dTg_typeCall_12 (fun H locs hP hS => ?_)
  refine lv_lstore (lv' := [(4, .long r17), (0, .ref (ad g 3)), (1, .ref (ad g (cP i))), (2, .int v2), (3, .int v3)]) hx hb dTg_typeCall_15 hl (Nat.le_of_ble_eq_true rfl) rfl (fun ls hl => ?_)
  refine lv_lload hx hb dTg_typeCall_17 (lv_at hl 0 rfl) ?_
  obtain ⟨r20, σ19, h18, h⟩ := bn_some h
  refine q_cSi (rest := []) (As := [.long r17]) cx hP hS hRk (c_Ty_isFrom l g hg h18) Y_Ty_isFrom S_Ty_isFrom t_433 (by omega) rfl hl.1 rfl (Nat.le_of_ble_eq_true rfl) dTg_typeCall_19 (fun H locs hP hS => ?_)
  refine lv_istore (lv' := [(6, .int r20), (4, .long r17), (0, .ref (ad g 3)), (1, .ref (ad g (cP i))), (2, .int v2), (3, .int v3)]) hx hb dTg_typeCall_22 hl (Nat.le_of_ble_eq_true rfl) rfl (fun ls hl => ?_)
  refine lv_iload hx hb dTg_typeCall_24 (lv_at hl 0 rfl) ?_
  refine lv_if_eq (tgt := 37) hx hb dTg_typeCall_26 (by decide) (fun hc => ?_) (fun hc => ?_)
  · replace h := if_t h hc
    refine lv_lconst (v := 1) hx hb dTg_typeCall_37 rfl ?_
    exact J38 _ _ _ _ _ _ h _ _ _ (lv_sub hl [2, 3, 4, 5, 1, 0] rfl) hP hS
  · replace h := if_f h hc
    refine lv_lload hx hb dTg_typeCall_29 (lv_at hl 1 rfl) ?_
    obtain ⟨r23, σ22, h21, h⟩ := bn_some h
    refine q_cSl (rest := []) (As := [.long r17]) cx hP hS hRk (c_Ty_taken l g hg h21) Y_Ty_taken S_Ty_taken t_434 (by omega) rfl hl.1 rfl (Nat.le_of_ble_eq_true rfl) dTg_typeCall_31 (fun H locs hP hS => ?_)
    refine lv_goto (tgt := 38) hx hb dTg_typeCall_34 (by decide) ?_
    exact J38 _ _ _ _ _ _ h _ _ _ (lv_sub hl [2, 3, 4, 5, 1, 0] rfl) hP hS
theorem dTg_typeFunction_0 : decode cTg_typeFunction 0 = .ok (.aload_n 1, 1) := by decide +kernel
theorem dTg_typeFunction_1 : decode cTg_typeFunction 1 = .ok (.getfield 61, 3) := by decide +kernel
theorem dTg_typeFunction_4 : decode cTg_typeFunction 4 = .ok (.iload_n 2, 1) := by decide +kernel
theorem dTg_typeFunction_5 : decode cTg_typeFunction 5 = .ok (.laload, 1) := by decide +kernel
theorem dTg_typeFunction_6 : decode cTg_typeFunction 6 = .ok (.lstore 6, 2) := by decide +kernel
theorem dTg_typeFunction_8 : decode cTg_typeFunction 8 = .ok (.lload_n 3, 1) := by decide +kernel
theorem dTg_typeFunction_9 : decode cTg_typeFunction 9 = .ok (.lconst 1, 1) := by decide +kernel
theorem dTg_typeFunction_10 : decode cTg_typeFunction 10 = .ok (.lcmp, 1) := by decide +kernel
theorem dTg_typeFunction_11 : decode cTg_typeFunction 11 = .ok (.ifCond .ne 7, 3) := by decide +kernel
theorem dTg_typeFunction_14 : decode cTg_typeFunction 14 = .ok (.lconst 1, 1) := by decide +kernel
theorem dTg_typeFunction_15 : decode cTg_typeFunction 15 = .ok (.goto 4, 3) := by decide +kernel
theorem dTg_typeFunction_18 : decode cTg_typeFunction 18 = .ok (.lconst 0, 1) := by decide +kernel
theorem dTg_typeFunction_19 : decode cTg_typeFunction 19 = .ok (.lstore 8, 2) := by decide +kernel
theorem dTg_typeFunction_21 : decode cTg_typeFunction 21 = .ok (.lload_n 3, 1) := by decide +kernel
theorem dTg_typeFunction_22 : decode cTg_typeFunction 22 = .ok (.invokestatic 68, 3) := by decide +kernel
theorem dTg_typeFunction_25 : decode cTg_typeFunction 25 = .ok (.ifCond .eq 29, 3) := by decide +kernel
theorem dTg_typeFunction_28 : decode cTg_typeFunction 28 = .ok (.lload_n 3, 1) := by decide +kernel
theorem dTg_typeFunction_29 : decode cTg_typeFunction 29 = .ok (.invokestatic 76, 3) := by decide +kernel
theorem dTg_typeFunction_32 : decode cTg_typeFunction 32 = .ok (.lstore 8, 2) := by decide +kernel
theorem dTg_typeFunction_34 : decode cTg_typeFunction 34 = .ok (.lload 6, 2) := by decide +kernel
theorem dTg_typeFunction_36 : decode cTg_typeFunction 36 = .ok (.lload_n 3, 1) := by decide +kernel
theorem dTg_typeFunction_37 : decode cTg_typeFunction 37 = .ok (.invokestatic 72, 3) := by decide +kernel
theorem dTg_typeFunction_40 : decode cTg_typeFunction 40 = .ok (.iconst 0, 1) := by decide +kernel
theorem dTg_typeFunction_41 : decode cTg_typeFunction 41 = .ok (.invokestatic 30, 3) := by decide +kernel
theorem dTg_typeFunction_44 : decode cTg_typeFunction 44 = .ok (.ifCond .ne 10, 3) := by decide +kernel
theorem dTg_typeFunction_47 : decode cTg_typeFunction 47 = .ok (.aload_n 0, 1) := by decide +kernel
theorem dTg_typeFunction_48 : decode cTg_typeFunction 48 = .ok (.getfield 18, 3) := by decide +kernel
theorem dTg_typeFunction_51 : decode cTg_typeFunction 51 = .ok (.iload_n 2, 1) := by decide +kernel
theorem dTg_typeFunction_52 : decode cTg_typeFunction 52 = .ok (.iconst 3, 1) := by decide +kernel
theorem dTg_typeFunction_53 : decode cTg_typeFunction 53 = .ok (.iastore, 1) := by decide +kernel
theorem dTg_typeFunction_54 : decode cTg_typeFunction 54 = .ok (.lload 6, 2) := by decide +kernel
theorem dTg_typeFunction_56 : decode cTg_typeFunction 56 = .ok (.aload_n 0, 1) := by decide +kernel
theorem dTg_typeFunction_57 : decode cTg_typeFunction 57 = .ok (.aload_n 1, 1) := by decide +kernel
theorem dTg_typeFunction_58 : decode cTg_typeFunction 58 = .ok (.aload_n 1, 1) := by decide +kernel
theorem dTg_typeFunction_59 : decode cTg_typeFunction 59 = .ok (.iload_n 2, 1) := by decide +kernel
theorem dTg_typeFunction_60 : decode cTg_typeFunction 60 = .ok (.iconst 0, 1) := by decide +kernel
theorem dTg_typeFunction_61 : decode cTg_typeFunction 61 = .ok (.invokevirtual 47, 3) := by decide +kernel
theorem dTg_typeFunction_64 : decode cTg_typeFunction 64 = .ok (.lload 8, 2) := by decide +kernel
theorem dTg_typeFunction_66 : decode cTg_typeFunction 66 = .ok (.iload 5, 2) := by decide +kernel
theorem dTg_typeFunction_68 : decode cTg_typeFunction 68 = .ok (.iconst 1, 1) := by decide +kernel
theorem dTg_typeFunction_69 : decode cTg_typeFunction 69 = .ok (.iadd, 1) := by decide +kernel
theorem dTg_typeFunction_70 : decode cTg_typeFunction 70 = .ok (.invokevirtual 51, 3) := by decide +kernel
theorem dTg_typeFunction_73 : decode cTg_typeFunction 73 = .ok (.invokestatic 79, 3) := by decide +kernel
theorem dTg_typeFunction_76 : decode cTg_typeFunction 76 = .ok (.lreturn, 1) := by decide +kernel
def f_Tg_typeFunction_J54 (rc : Nat → Int32 → Int64 → Int32 → Mem → Option (Int64 × Mem)) (i : Nat) (v2 : Int32) (v3 : Int64) (v5 : Int32) (v6 : Int64) (v8 : Int64) (σ : Mem) : Option (Int64 × Mem) :=
  bn (f_Pr_part i v2 (0 : Int32) σ) fun (r3 : Int32) (σ2 : Mem) =>
  bn (rc i r3 v8 (v5 + (1 : Int32)) σ2) fun (r6 : Int64) (σ5 : Mem) =>
  bn (f_Ty_from v6 r6 σ5) fun (r9 : Int64) (σ8 : Mem) =>
  some (r9, σ8)
def f_Tg_typeFunction_J19 (rc : Nat → Int32 → Int64 → Int32 → Mem → Option (Int64 × Mem)) (i : Nat) (v2 : Int32) (v3 : Int64) (v5 : Int32) (v6 : Int64) (u0 : Int64) (σ : Mem) : Option (Int64 × Mem) :=
  bn (f_Ty_isFrom v3 σ) fun (r12 : Int32) (σ11 : Mem) =>
  if r12 = 0 then (
  f_Tg_typeFunction_J54 rc i v2 v3 v5 v6 u0 σ11)
  else (
  bn (f_Ty_given v3 σ11) fun (r15 : Int64) (σ14 : Mem) =>
  bn (f_Ty_taken v3 σ14) fun (r18 : Int64) (σ17 : Mem) =>
  bn (F_Ty_consistent 28 v6 r18 (0 : Int32) σ17) fun (r21 : Int32) (σ20 : Mem) =>
  if r21 = 0 then (
  gd (inb v2 40) (lt_ (sI σ20 6 v2.toNatClampNeg (3 : Int32)) fun (σ23 : Mem) =>
  f_Tg_typeFunction_J54 rc i v2 v3 v5 v6 r15 σ23))
  else (
  f_Tg_typeFunction_J54 rc i v2 v3 v5 v6 r15 σ20))
def f_Tg_typeFunction (rc : Nat → Int32 → Int64 → Int32 → Mem → Option (Int64 × Mem)) (i : Nat) (v2 : Int32) (v3 : Int64) (v5 : Int32) (σ : Mem) : Option (Int64 × Mem) :=
  gd (inb v2 40) (
  lt_ (σ.2 (cPt i) v2.toNatClampNeg) fun (x25 : Int64) =>
  if (lg_cmp v3 (1 : Int64)) = 0 then (
  f_Tg_typeFunction_J19 rc i v2 v3 v5 x25 (1 : Int64) σ)
  else (
  f_Tg_typeFunction_J19 rc i v2 v3 v5 x25 (0 : Int64) σ))
set_option maxHeartbeats 4000000 in
set_option maxRecDepth 100000 in
theorem c_Tg_typeFunction (l : Launch) (g : Gw) (hg : wInj g) {rc : Nat → Int32 → Int64 → Int32 → Mem → Option (Int64 × Mem)} {d0 : Nat} (hd0 : 31 ≤ d0) (hrc : ∀ {i : Nat} (hi : i < 17) {v2 : Int32} {v3 : Int64} {v5 : Int32} {r0 : Int64} {σ σ0 : Mem}, rc i v2 v3 v5 σ = some (r0, σ0) → KL l yTg_typeTerm cTg_typeTerm 8 (some .long) d0 g [.ref (ad g 3), .ref (ad g (cP i)), .int v2, .long v3, .int v5] σ r0 σ0) {i : Nat} (hi : i < 17) {v2 : Int32} {v3 : Int64} {v5 : Int32} {r0 : Int64} {σ σ0 : Mem} (h : f_Tg_typeFunction rc i v2 v3 v5 σ = some (r0, σ0)) : KL l yTg_typeFunction cTg_typeFunction 10 (some .long) (d0 + 1) g [.ref (ad g 3), .ref (ad g (cP i)), .int v2, .long v3, .int v5] σ r0 σ0 := by
  refine q_met g hg (own := "TermBench$Typing") rfl rfl (Nat.le_of_ble_eq_true rfl) (fun p e s m args below meth c R Q cx hRk hr hQ H locs ls hP hS hl => ?_)
  have hx := cx.1
  have hb := cx.2.1
  have hown := cx.2.2.2.1
  have hts := cx.2.2.2.2.1
  have hl : lv_has ls 10 [(0, .ref (ad g 3)), (1, .ref (ad g (cP i))), (2, .int v2), (3, .long v3), (5, .int v5)] := hl
  have J54 : ∀ (v2 : Int32) (v3 : Int64) (v5 : Int32) (v6 : Int64) (v8 : Int64) (σ : Mem), f_Tg_typeFunction_J54 rc i v2 v3 v5 v6 v8 σ = some (r0, σ0) → ∀ (H : Heap) (locs : List Loc) (ls : Array Slot), lv_has ls 10 [(0, .ref (ad g 3)), (1, .ref (ad g (cP i))), (2, .int v2), (3, .long v3), (5, .int v5), (6, .long v6), (8, .long v8)] → Wd g σ H → va_S (wA g) s.heap H locs → W p l e R s m args below meth c H locs 0 0 Q (F0 m 54 ls []) := by
    intro v2 v3 v5 v6 v8 σ h H locs ls hl hP hS
    unfold f_Tg_typeFunction_J54 at h
    refine lv_lload hx hb dTg_typeFunction_54 (lv_at hl 5 rfl) ?_
    refine lv_aload_n hx hb dTg_typeFunction_56 rfl (lv_at hl 0 rfl) ?_
    refine lv_aload_n hx hb dTg_typeFunction_57 rfl (lv_at hl 1 rfl) ?_
    refine lv_aload_n hx hb dTg_typeFunction_58 rfl (lv_at hl 1 rfl) ?_
    refine lv_iload_n hx hb dTg_typeFunction_59 rfl (lv_at hl 2 rfl) ?_
    refine lv_iconst (v := 0) hx hb dTg_typeFunction_60 (by decide) ?_
    obtain ⟨r3, σ2, h1, h⟩ := bn_some h
    refine q_cVi (rest := [.ref (ad g (cP i)), .ref (ad g 3), .long v6]) (As := [.int v2, .int (0 : Int32)]) cx hP hS hRk (c_Pr_part l g hg hi h1) Y_Pr_part V_Pr_part t_427 (by omega) (l_cP hi) (e_cP g hi _ _) rfl rfl hl.1 rfl (Nat.le_of_ble_eq_true rfl) dTg_typeFunction_61 (fun H locs hP hS => ?_)
    refine lv_lload hx hb dTg_typeFunction_64 (lv_at hl 6 rfl) ?_
    refine lv_iload hx hb dTg_typeFunction_66 (lv_at hl 4 rfl) ?_
    refine lv_iconst (v := 1) hx hb dTg_typeFunction_68 (by decide) ?_
    refine lv_iadd hx hb dTg_typeFunction_69 ?_
    obtain ⟨r6, σ5, h4, h⟩ := bn_some h
    refine q_cVl (rest := [.long v6]) (As := [.ref (ad g (cP i)), .int r3, .long v8, .int (v5 + (1 : Int32))]) cx hP hS hRk (hrc hi h4) Y_Tg_typeTerm V_Tg_typeTerm t_428 (by omega) (by decide) (e_3 g _ _) rfl rfl hl.1 rfl (Nat.le_of_ble_eq_true rfl) dTg_typeFunction_70 (fun H locs hP hS => ?_)
    obtain ⟨r9, σ8, h7, h⟩ := bn_some h
    refine q_cSl (rest := []) (As := [.long v6, .long r6]) cx hP hS hRk (c_Ty_from l g hg h7) Y_Ty_from S_Ty_from t_447 (by omega) rfl hl.1 rfl (Nat.le_of_ble_eq_true rfl) dTg_typeFunction_73 (fun H locs hP hS => ?_)
    exact q_rl cx hr hP hS hQ h dTg_typeFunction_76
  have J19 : ∀ (v2 : Int32) (v3 : Int64) (v5 : Int32) (v6 : Int64) (u0 : Int64) (σ : Mem), f_Tg_typeFunction_J19 rc i v2 v3 v5 v6 u0 σ = some (r0, σ0) → ∀ (H : Heap) (locs : List Loc) (ls : Array Slot), lv_has ls 10 [(0, .ref (ad g 3)), (1, .ref (ad g (cP i))), (2, .int v2), (3, .long v3), (5, .int v5), (6, .long v6)] → Wd g σ H → va_S (wA g) s.heap H locs → W p l e R s m args below meth c H locs 0 0 Q (F0 m 19 ls [.long u0]) := by
    intro v2 v3 v5 v6 u0 σ h H locs ls hl hP hS
    unfold f_Tg_typeFunction_J19 at h
    refine lv_lstore (lv' := [(8, .long u0), (0, .ref (ad g 3)), (1, .ref (ad g (cP i))), (2, .int v2), (3, .long v3), (5, .int v5), (6, .long v6)]) hx hb dTg_typeFunction_19 hl (Nat.le_of_ble_eq_true rfl) rfl (fun ls hl => ?_)
    refine lv_lload_n hx hb dTg_typeFunction_21 rfl (lv_at hl 4 rfl) ?_
    obtain ⟨r12, σ11, h10, h⟩ := bn_some h
    refine q_cSi (rest := []) (As := [.long v3]) cx hP hS hRk (c_Ty_isFrom l g hg h10) Y_Ty_isFrom S_Ty_isFrom t_433 (by omega) rfl hl.1 rfl (Nat.le_of_ble_eq_true rfl) dTg_typeFunction_22 (fun H locs hP hS => ?_)
    refine lv_if_eq (tgt := 54) hx hb dTg_typeFunction_25 (by decide) (fun hc => ?_) (fun hc => ?_)
    · replace h := if_t h hc
      exact J54 _ _ _ _ _ _ h _ _ _ (lv_sub hl [1, 2, 3, 4, 5, 6, 0] rfl) hP hS
    · replace h := if_f h hc
      refine lv_lload_n hx hb dTg_typeFunction_28 rfl (lv_at hl 4 rfl) ?_
      obtain ⟨r15, σ14, h13, h⟩ := bn_some h
      refine q_cSl (rest := []) (As := [.long v3]) cx hP hS hRk (c_Ty_given l g hg h13) Y_Ty_given S_Ty_given t_435 (by omega) rfl hl.1 rfl (Nat.le_of_ble_eq_true rfl) dTg_typeFunction_29 (fun H locs hP hS => ?_)
      refine lv_lstore (lv' := [(8, .long r15), (0, .ref (ad g 3)), (1, .ref (ad g (cP i))), (2, .int v2), (3, .long v3), (5, .int v5), (6, .long v6)]) hx hb dTg_typeFunction_32 hl (Nat.le_of_ble_eq_true rfl) rfl (fun ls hl => ?_)
      refine lv_lload hx hb dTg_typeFunction_34 (lv_at hl 6 rfl) ?_
      refine lv_lload_n hx hb dTg_typeFunction_36 rfl (lv_at hl 4 rfl) ?_
      obtain ⟨r18, σ17, h16, h⟩ := bn_some h
      refine q_cSl (rest := [.long v6]) (As := [.long v3]) cx hP hS hRk (c_Ty_taken l g hg h16) Y_Ty_taken S_Ty_taken t_434 (by omega) rfl hl.1 rfl (Nat.le_of_ble_eq_true rfl) dTg_typeFunction_37 (fun H locs hP hS => ?_)
      refine lv_iconst (v := 0) hx hb dTg_typeFunction_40 (by decide) ?_
      obtain ⟨r21, σ20, h19, h⟩ := bn_some h
      refine q_cSi (rest := []) (As := [.long v6, .long r18, .int (0 : Int32)]) cx hP hS hRk (C_Ty_consistent l g hg 28 h19) Y_Ty_consistent S_Ty_consistent t_440 (by omega) rfl hl.1 rfl (Nat.le_of_ble_eq_true rfl) dTg_typeFunction_41 (fun H locs hP hS => ?_)
      refine lv_if_ne (tgt := 54) hx hb dTg_typeFunction_44 (by decide) (fun hc => ?_) (fun hc => ?_)
      · replace h := if_f h hc
        exact J54 _ _ _ _ _ _ h _ _ _ (lv_sub hl [1, 2, 3, 4, 5, 6, 0] rfl) hP hS
      · replace h := if_t h hc
        refine lv_aload_n hx hb dTg_typeFunction_47 rfl (lv_at hl 1 rfl) ?_
        refine g_Tg_marks cx hP  t_93 dTg_typeFunction_48 ?_
        refine lv_iload_n hx hb dTg_typeFunction_51 rfl (lv_at hl 3 rfl) ?_
        refine lv_iconst (v := 3) hx hb dTg_typeFunction_52 (by decide) ?_
        obtain ⟨b22, h⟩ := gd_some h
        obtain ⟨σ23, eσ23, h⟩ := lt_some h
        refine q_iast cx hP hS (by decide) (e_6 g) b22 dTg_typeFunction_53 eσ23 (fun H locs hP hS => ?_)
        exact J54 _ _ _ _ _ _ h _ _ _ (lv_sub hl [1, 2, 3, 4, 5, 6, 0] rfl) hP hS
  unfold f_Tg_typeFunction at h
  refine lv_aload_n hx hb dTg_typeFunction_0 rfl (lv_at hl 1 rfl) ?_
  refine g_Pr_types cx hP hi  t_42 dTg_typeFunction_1 ?_
  refine lv_iload_n hx hb dTg_typeFunction_4 rfl (lv_at hl 2 rfl) ?_
  obtain ⟨b24, h⟩ := gd_some h
  refine q_lald cx hP (l_cPt hi) (e_cPt g hi) b24 dTg_typeFunction_5 ?_
  obtain ⟨x25, ex25, h⟩ := lt_some h
  refine q_nml ex25 ?_
  refine lv_lstore (lv' := [(6, .long x25), (0, .ref (ad g 3)), (1, .ref (ad g (cP i))), (2, .int v2), (3, .long v3), (5, .int v5)]) hx hb dTg_typeFunction_6 hl (Nat.le_of_ble_eq_true rfl) rfl (fun ls hl => ?_)
  refine lv_lload_n hx hb dTg_typeFunction_8 rfl (lv_at hl 4 rfl) ?_
  refine lv_lconst (v := 1) hx hb dTg_typeFunction_9 rfl ?_
  refine W.lcmp hx hb dTg_typeFunction_10 ?_
  refine lv_if_ne (tgt := 18) hx hb dTg_typeFunction_11 (by decide) (fun hc => ?_) (fun hc => ?_)
  · replace h := if_f h hc
    refine lv_lconst (v := 0) hx hb dTg_typeFunction_18 rfl ?_
    exact J19 _ _ _ _ _ _ h _ _ _ (lv_sub hl [1, 2, 3, 4, 5, 0] rfl) hP hS
  · replace h := if_t h hc
    refine lv_lconst (v := 1) hx hb dTg_typeFunction_14 rfl ?_
    refine lv_goto (tgt := 19) hx hb dTg_typeFunction_15 (by decide) ?_
    exact J19 _ _ _ _ _ _ h _ _ _ (lv_sub hl [1, 2, 3, 4, 5, 0] rfl) hP hS
theorem dTg_typeByKind_0 : decode cTg_typeByKind 0 = .ok (.aload_n 1, 1) := by decide +kernel
theorem dTg_typeByKind_1 : decode cTg_typeByKind 1 = .ok (.getfield 36, 3) := by decide +kernel
theorem dTg_typeByKind_4 : decode cTg_typeByKind 4 = .ok (.iload_n 2, 1) := by decide +kernel
theorem dTg_typeByKind_5 : decode cTg_typeByKind 5 = .ok (.iaload, 1) := by decide +kernel
theorem dTg_typeByKind_6 : decode cTg_typeByKind 6 = .ok (.tableswitch 139 1 6 #[38, 42, 49, 91, 100, 110], 38) := by decide +kernel
theorem dTg_typeByKind_44 : decode cTg_typeByKind 44 = .ok (.ldc2_w 41, 3) := by decide +kernel
theorem dTg_typeByKind_47 : decode cTg_typeByKind 47 = .ok (.lreturn, 1) := by decide +kernel
theorem dTg_typeByKind_48 : decode cTg_typeByKind 48 = .ok (.aload_n 0, 1) := by decide +kernel
theorem dTg_typeByKind_49 : decode cTg_typeByKind 49 = .ok (.aload_n 1, 1) := by decide +kernel
theorem dTg_typeByKind_50 : decode cTg_typeByKind 50 = .ok (.iload_n 2, 1) := by decide +kernel
theorem dTg_typeByKind_51 : decode cTg_typeByKind 51 = .ok (.invokevirtual 43, 3) := by decide +kernel
theorem dTg_typeByKind_54 : decode cTg_typeByKind 54 = .ok (.lreturn, 1) := by decide +kernel
theorem dTg_typeByKind_55 : decode cTg_typeByKind 55 = .ok (.aload_n 0, 1) := by decide +kernel
theorem dTg_typeByKind_56 : decode cTg_typeByKind 56 = .ok (.aload_n 1, 1) := by decide +kernel
theorem dTg_typeByKind_57 : decode cTg_typeByKind 57 = .ok (.aload_n 1, 1) := by decide +kernel
theorem dTg_typeByKind_58 : decode cTg_typeByKind 58 = .ok (.iload_n 2, 1) := by decide +kernel
theorem dTg_typeByKind_59 : decode cTg_typeByKind 59 = .ok (.iconst 0, 1) := by decide +kernel
theorem dTg_typeByKind_60 : decode cTg_typeByKind 60 = .ok (.invokevirtual 47, 3) := by decide +kernel
theorem dTg_typeByKind_63 : decode cTg_typeByKind 63 = .ok (.ldc2_w 41, 3) := by decide +kernel
theorem dTg_typeByKind_66 : decode cTg_typeByKind 66 = .ok (.iload 5, 2) := by decide +kernel
theorem dTg_typeByKind_68 : decode cTg_typeByKind 68 = .ok (.iconst 1, 1) := by decide +kernel
theorem dTg_typeByKind_69 : decode cTg_typeByKind 69 = .ok (.iadd, 1) := by decide +kernel
theorem dTg_typeByKind_70 : decode cTg_typeByKind 70 = .ok (.invokevirtual 51, 3) := by decide +kernel
theorem dTg_typeByKind_73 : decode cTg_typeByKind 73 = .ok (.pop2, 1) := by decide +kernel
theorem dTg_typeByKind_74 : decode cTg_typeByKind 74 = .ok (.aload_n 0, 1) := by decide +kernel
theorem dTg_typeByKind_75 : decode cTg_typeByKind 75 = .ok (.aload_n 1, 1) := by decide +kernel
theorem dTg_typeByKind_76 : decode cTg_typeByKind 76 = .ok (.aload_n 1, 1) := by decide +kernel
theorem dTg_typeByKind_77 : decode cTg_typeByKind 77 = .ok (.iload_n 2, 1) := by decide +kernel
theorem dTg_typeByKind_78 : decode cTg_typeByKind 78 = .ok (.iconst 1, 1) := by decide +kernel
theorem dTg_typeByKind_79 : decode cTg_typeByKind 79 = .ok (.invokevirtual 47, 3) := by decide +kernel
theorem dTg_typeByKind_82 : decode cTg_typeByKind 82 = .ok (.ldc2_w 41, 3) := by decide +kernel
theorem dTg_typeByKind_85 : decode cTg_typeByKind 85 = .ok (.iload 5, 2) := by decide +kernel
theorem dTg_typeByKind_87 : decode cTg_typeByKind 87 = .ok (.iconst 1, 1) := by decide +kernel
theorem dTg_typeByKind_88 : decode cTg_typeByKind 88 = .ok (.iadd, 1) := by decide +kernel
theorem dTg_typeByKind_89 : decode cTg_typeByKind 89 = .ok (.invokevirtual 51, 3) := by decide +kernel
theorem dTg_typeByKind_92 : decode cTg_typeByKind 92 = .ok (.pop2, 1) := by decide +kernel
theorem dTg_typeByKind_93 : decode cTg_typeByKind 93 = .ok (.ldc2_w 41, 3) := by decide +kernel
theorem dTg_typeByKind_96 : decode cTg_typeByKind 96 = .ok (.lreturn, 1) := by decide +kernel
theorem dTg_typeByKind_97 : decode cTg_typeByKind 97 = .ok (.aload_n 0, 1) := by decide +kernel
theorem dTg_typeByKind_98 : decode cTg_typeByKind 98 = .ok (.aload_n 1, 1) := by decide +kernel
theorem dTg_typeByKind_99 : decode cTg_typeByKind 99 = .ok (.iload_n 2, 1) := by decide +kernel
theorem dTg_typeByKind_100 : decode cTg_typeByKind 100 = .ok (.iload 5, 2) := by decide +kernel
theorem dTg_typeByKind_102 : decode cTg_typeByKind 102 = .ok (.invokevirtual 54, 3) := by decide +kernel
theorem dTg_typeByKind_105 : decode cTg_typeByKind 105 = .ok (.lreturn, 1) := by decide +kernel
theorem dTg_typeByKind_106 : decode cTg_typeByKind 106 = .ok (.aload_n 0, 1) := by decide +kernel
theorem dTg_typeByKind_107 : decode cTg_typeByKind 107 = .ok (.aload_n 1, 1) := by decide +kernel
theorem dTg_typeByKind_108 : decode cTg_typeByKind 108 = .ok (.iload_n 2, 1) := by decide +kernel
theorem dTg_typeByKind_109 : decode cTg_typeByKind 109 = .ok (.lload_n 3, 1) := by decide +kernel
theorem dTg_typeByKind_110 : decode cTg_typeByKind 110 = .ok (.iload 5, 2) := by decide +kernel
theorem dTg_typeByKind_112 : decode cTg_typeByKind 112 = .ok (.invokevirtual 58, 3) := by decide +kernel
theorem dTg_typeByKind_115 : decode cTg_typeByKind 115 = .ok (.lreturn, 1) := by decide +kernel
theorem dTg_typeByKind_116 : decode cTg_typeByKind 116 = .ok (.aload_n 0, 1) := by decide +kernel
theorem dTg_typeByKind_117 : decode cTg_typeByKind 117 = .ok (.aload_n 1, 1) := by decide +kernel
theorem dTg_typeByKind_118 : decode cTg_typeByKind 118 = .ok (.aload_n 1, 1) := by decide +kernel
theorem dTg_typeByKind_119 : decode cTg_typeByKind 119 = .ok (.iload_n 2, 1) := by decide +kernel
theorem dTg_typeByKind_120 : decode cTg_typeByKind 120 = .ok (.iconst 0, 1) := by decide +kernel
theorem dTg_typeByKind_121 : decode cTg_typeByKind 121 = .ok (.invokevirtual 47, 3) := by decide +kernel
theorem dTg_typeByKind_124 : decode cTg_typeByKind 124 = .ok (.aload_n 1, 1) := by decide +kernel
theorem dTg_typeByKind_125 : decode cTg_typeByKind 125 = .ok (.getfield 61, 3) := by decide +kernel
theorem dTg_typeByKind_128 : decode cTg_typeByKind 128 = .ok (.iload_n 2, 1) := by decide +kernel
theorem dTg_typeByKind_129 : decode cTg_typeByKind 129 = .ok (.laload, 1) := by decide +kernel
theorem dTg_typeByKind_130 : decode cTg_typeByKind 130 = .ok (.iload 5, 2) := by decide +kernel
theorem dTg_typeByKind_132 : decode cTg_typeByKind 132 = .ok (.iconst 1, 1) := by decide +kernel
theorem dTg_typeByKind_133 : decode cTg_typeByKind 133 = .ok (.iadd, 1) := by decide +kernel
theorem dTg_typeByKind_134 : decode cTg_typeByKind 134 = .ok (.invokevirtual 51, 3) := by decide +kernel
theorem dTg_typeByKind_137 : decode cTg_typeByKind 137 = .ok (.pop2, 1) := by decide +kernel
theorem dTg_typeByKind_138 : decode cTg_typeByKind 138 = .ok (.aload_n 1, 1) := by decide +kernel
theorem dTg_typeByKind_139 : decode cTg_typeByKind 139 = .ok (.getfield 61, 3) := by decide +kernel
theorem dTg_typeByKind_142 : decode cTg_typeByKind 142 = .ok (.iload_n 2, 1) := by decide +kernel
theorem dTg_typeByKind_143 : decode cTg_typeByKind 143 = .ok (.laload, 1) := by decide +kernel
theorem dTg_typeByKind_144 : decode cTg_typeByKind 144 = .ok (.lreturn, 1) := by decide +kernel
theorem dTg_typeByKind_145 : decode cTg_typeByKind 145 = .ok (.lconst 1, 1) := by decide +kernel
theorem dTg_typeByKind_146 : decode cTg_typeByKind 146 = .ok (.lreturn, 1) := by decide +kernel
def f_Tg_typeByKind (rc : Nat → Int32 → Int64 → Int32 → Mem → Option (Int64 × Mem)) (i : Nat) (v2 : Int32) (v3 : Int64) (v5 : Int32) (σ : Mem) : Option (Int64 × Mem) :=
  gd (inb v2 40) (
  if (σ.1 (cPk i) v2.toNatClampNeg) = (1 : Int32) then (
  some ((2 : Int64), σ))
  else (
  if (σ.1 (cPk i) v2.toNatClampNeg) = (2 : Int32) then (
  bn (f_Tg_typeName i v2 σ) fun (r4 : Int64) (σ3 : Mem) =>
  some (r4, σ3))
  else (
  if (σ.1 (cPk i) v2.toNatClampNeg) = (3 : Int32) then (
  bn (f_Pr_part i v2 (0 : Int32) σ) fun (r7 : Int32) (σ6 : Mem) =>
  bn (rc i r7 (2 : Int64) (v5 + (1 : Int32)) σ6) fun (r10 : Int64) (σ9 : Mem) =>
  bn (f_Pr_part i v2 (1 : Int32) σ9) fun (r13 : Int32) (σ12 : Mem) =>
  bn (rc i r13 (2 : Int64) (v5 + (1 : Int32)) σ12) fun (r16 : Int64) (σ15 : Mem) =>
  some ((2 : Int64), σ15))
  else (
  if (σ.1 (cPk i) v2.toNatClampNeg) = (4 : Int32) then (
  bn (f_Tg_typeCall rc i v2 v5 σ) fun (r19 : Int64) (σ18 : Mem) =>
  some (r19, σ18))
  else (
  if (σ.1 (cPk i) v2.toNatClampNeg) = (5 : Int32) then (
  bn (f_Tg_typeFunction rc i v2 v3 v5 σ) fun (r22 : Int64) (σ21 : Mem) =>
  some (r22, σ21))
  else (
  if (σ.1 (cPk i) v2.toNatClampNeg) = (6 : Int32) then (
  bn (f_Pr_part i v2 (0 : Int32) σ) fun (r25 : Int32) (σ24 : Mem) =>
  gd (inb v2 40) (
  bn (rc i r25 (σ24.2 (cPt i) v2.toNatClampNeg) (v5 + (1 : Int32)) σ24) fun (r29 : Int64) (σ28 : Mem) =>
  gd (inb v2 40) (
  some (σ28.2 (cPt i) v2.toNatClampNeg, σ28))))
  else (
  some ((1 : Int64), σ))))))))
set_option maxHeartbeats 4000000 in
set_option maxRecDepth 100000 in
theorem c_Tg_typeByKind (l : Launch) (g : Gw) (hg : wInj g) {rc : Nat → Int32 → Int64 → Int32 → Mem → Option (Int64 × Mem)} {d0 : Nat} (hd0 : 31 ≤ d0) (hrc : ∀ {i : Nat} (hi : i < 17) {v2 : Int32} {v3 : Int64} {v5 : Int32} {r0 : Int64} {σ σ0 : Mem}, rc i v2 v3 v5 σ = some (r0, σ0) → KL l yTg_typeTerm cTg_typeTerm 8 (some .long) d0 g [.ref (ad g 3), .ref (ad g (cP i)), .int v2, .long v3, .int v5] σ r0 σ0) {i : Nat} (hi : i < 17) {v2 : Int32} {v3 : Int64} {v5 : Int32} {r0 : Int64} {σ σ0 : Mem} (h : f_Tg_typeByKind rc i v2 v3 v5 σ = some (r0, σ0)) : KL l yTg_typeByKind cTg_typeByKind 6 (some .long) (d0 + 2) g [.ref (ad g 3), .ref (ad g (cP i)), .int v2, .long v3, .int v5] σ r0 σ0 := by
  refine q_met g hg (own := "TermBench$Typing") rfl rfl (Nat.le_of_ble_eq_true rfl) (fun p e s m args below meth c R Q cx hRk hr hQ H locs ls hP hS hl => ?_)
  have hx := cx.1
  have hb := cx.2.1
  have hown := cx.2.2.2.1
  have hts := cx.2.2.2.2.1
  have hl : lv_has ls 6 [(0, .ref (ad g 3)), (1, .ref (ad g (cP i))), (2, .int v2), (3, .long v3), (5, .int v5)] := hl
  unfold f_Tg_typeByKind at h
  refine lv_aload_n hx hb dTg_typeByKind_0 rfl (lv_at hl 1 rfl) ?_
  refine g_Pr_kinds cx hP hi  t_34 dTg_typeByKind_1 ?_
  refine lv_iload_n hx hb dTg_typeByKind_4 rfl (lv_at hl 2 rfl) ?_
  obtain ⟨b1, h⟩ := gd_some h
  refine q_iald cx hP (l_cPk hi) (e_cPk g hi) b1 dTg_typeByKind_5 ?_
  rcases Decidable.em (σ.1 (cPk i) v2.toNatClampNeg = (1 : Int32)) with hc1 | hc1
  · replace h := if_t h hc1
    refine lv_tableIn (tgt := 44) hx hb dTg_typeByKind_6 (by rw [hc1]; decide) (by rw [hc1]; decide) (by rw [hc1]; rfl) (by decide) ?_
    refine lv_ldc2 (own := "TermBench$Typing") (index := 41) (v := 2) hx hb hown (hts _ t_418) dTg_typeByKind_44 ?_
    exact q_rl cx hr hP hS hQ h dTg_typeByKind_47
  · replace h := if_f h hc1
    rcases Decidable.em (σ.1 (cPk i) v2.toNatClampNeg = (2 : Int32)) with hc2 | hc2
    · replace h := if_t h hc2
      refine lv_tableIn (tgt := 48) hx hb dTg_typeByKind_6 (by rw [hc2]; decide) (by rw [hc2]; decide) (by rw [hc2]; rfl) (by decide) ?_
      refine lv_aload_n hx hb dTg_typeByKind_48 rfl (lv_at hl 0 rfl) ?_
      refine lv_aload_n hx hb dTg_typeByKind_49 rfl (lv_at hl 1 rfl) ?_
      refine lv_iload_n hx hb dTg_typeByKind_50 rfl (lv_at hl 2 rfl) ?_
      obtain ⟨r4, σ3, h2, h⟩ := bn_some h
      refine q_cVl (rest := []) (As := [.ref (ad g (cP i)), .int v2]) cx hP hS hRk (c_Tg_typeName l g hg hi h2) Y_Tg_typeName V_Tg_typeName t_419 (by omega) (by decide) (e_3 g _ _) rfl rfl hl.1 rfl (Nat.le_of_ble_eq_true rfl) dTg_typeByKind_51 (fun H locs hP hS => ?_)
      exact q_rl cx hr hP hS hQ h dTg_typeByKind_54
    · replace h := if_f h hc2
      rcases Decidable.em (σ.1 (cPk i) v2.toNatClampNeg = (3 : Int32)) with hc3 | hc3
      · replace h := if_t h hc3
        refine lv_tableIn (tgt := 55) hx hb dTg_typeByKind_6 (by rw [hc3]; decide) (by rw [hc3]; decide) (by rw [hc3]; rfl) (by decide) ?_
        refine lv_aload_n hx hb dTg_typeByKind_55 rfl (lv_at hl 0 rfl) ?_
        refine lv_aload_n hx hb dTg_typeByKind_56 rfl (lv_at hl 1 rfl) ?_
        refine lv_aload_n hx hb dTg_typeByKind_57 rfl (lv_at hl 1 rfl) ?_
        refine lv_iload_n hx hb dTg_typeByKind_58 rfl (lv_at hl 2 rfl) ?_
        refine lv_iconst (v := 0) hx hb dTg_typeByKind_59 (by decide) ?_
        obtain ⟨r7, σ6, h5, h⟩ := bn_some h
        refine q_cVi (rest := [.ref (ad g (cP i)), .ref (ad g 3)]) (As := [.int v2, .int (0 : Int32)]) cx hP hS hRk (c_Pr_part l g hg hi h5) Y_Pr_part V_Pr_part t_427 (by omega) (l_cP hi) (e_cP g hi _ _) rfl rfl hl.1 rfl (Nat.le_of_ble_eq_true rfl) dTg_typeByKind_60 (fun H locs hP hS => ?_)
        refine lv_ldc2 (own := "TermBench$Typing") (index := 41) (v := 2) hx hb hown (hts _ t_418) dTg_typeByKind_63 ?_
        refine lv_iload hx hb dTg_typeByKind_66 (lv_at hl 4 rfl) ?_
        refine lv_iconst (v := 1) hx hb dTg_typeByKind_68 (by decide) ?_
        refine lv_iadd hx hb dTg_typeByKind_69 ?_
        obtain ⟨r10, σ9, h8, h⟩ := bn_some h
        refine q_cVl (rest := []) (As := [.ref (ad g (cP i)), .int r7, .long (2 : Int64), .int (v5 + (1 : Int32))]) cx hP hS hRk (hrc hi h8) Y_Tg_typeTerm V_Tg_typeTerm t_428 (by omega) (by decide) (e_3 g _ _) rfl rfl hl.1 rfl (Nat.le_of_ble_eq_true rfl) dTg_typeByKind_70 (fun H locs hP hS => ?_)
        refine lv_pop2_2 hx hb dTg_typeByKind_73 rfl ?_
        refine lv_aload_n hx hb dTg_typeByKind_74 rfl (lv_at hl 0 rfl) ?_
        refine lv_aload_n hx hb dTg_typeByKind_75 rfl (lv_at hl 1 rfl) ?_
        refine lv_aload_n hx hb dTg_typeByKind_76 rfl (lv_at hl 1 rfl) ?_
        refine lv_iload_n hx hb dTg_typeByKind_77 rfl (lv_at hl 2 rfl) ?_
        refine lv_iconst (v := 1) hx hb dTg_typeByKind_78 (by decide) ?_
        obtain ⟨r13, σ12, h11, h⟩ := bn_some h
        refine q_cVi (rest := [.ref (ad g (cP i)), .ref (ad g 3)]) (As := [.int v2, .int (1 : Int32)]) cx hP hS hRk (c_Pr_part l g hg hi h11) Y_Pr_part V_Pr_part t_427 (by omega) (l_cP hi) (e_cP g hi _ _) rfl rfl hl.1 rfl (Nat.le_of_ble_eq_true rfl) dTg_typeByKind_79 (fun H locs hP hS => ?_)
        refine lv_ldc2 (own := "TermBench$Typing") (index := 41) (v := 2) hx hb hown (hts _ t_418) dTg_typeByKind_82 ?_
        refine lv_iload hx hb dTg_typeByKind_85 (lv_at hl 4 rfl) ?_
        refine lv_iconst (v := 1) hx hb dTg_typeByKind_87 (by decide) ?_
        refine lv_iadd hx hb dTg_typeByKind_88 ?_
        obtain ⟨r16, σ15, h14, h⟩ := bn_some h
        refine q_cVl (rest := []) (As := [.ref (ad g (cP i)), .int r13, .long (2 : Int64), .int (v5 + (1 : Int32))]) cx hP hS hRk (hrc hi h14) Y_Tg_typeTerm V_Tg_typeTerm t_428 (by omega) (by decide) (e_3 g _ _) rfl rfl hl.1 rfl (Nat.le_of_ble_eq_true rfl) dTg_typeByKind_89 (fun H locs hP hS => ?_)
        refine lv_pop2_2 hx hb dTg_typeByKind_92 rfl ?_
        refine lv_ldc2 (own := "TermBench$Typing") (index := 41) (v := 2) hx hb hown (hts _ t_418) dTg_typeByKind_93 ?_
        exact q_rl cx hr hP hS hQ h dTg_typeByKind_96
      · replace h := if_f h hc3
        rcases Decidable.em (σ.1 (cPk i) v2.toNatClampNeg = (4 : Int32)) with hc4 | hc4
        · replace h := if_t h hc4
          refine lv_tableIn (tgt := 97) hx hb dTg_typeByKind_6 (by rw [hc4]; decide) (by rw [hc4]; decide) (by rw [hc4]; rfl) (by decide) ?_
          refine lv_aload_n hx hb dTg_typeByKind_97 rfl (lv_at hl 0 rfl) ?_
          refine lv_aload_n hx hb dTg_typeByKind_98 rfl (lv_at hl 1 rfl) ?_
          refine lv_iload_n hx hb dTg_typeByKind_99 rfl (lv_at hl 2 rfl) ?_
          refine lv_iload hx hb dTg_typeByKind_100 (lv_at hl 4 rfl) ?_
          obtain ⟨r19, σ18, h17, h⟩ := bn_some h
          refine q_cVl (rest := []) (As := [.ref (ad g (cP i)), .int v2, .int v5]) cx hP hS hRk (c_Tg_typeCall l g hg hd0 hrc hi h17) Y_Tg_typeCall V_Tg_typeCall t_429 (by omega) (by decide) (e_3 g _ _) rfl rfl hl.1 rfl (Nat.le_of_ble_eq_true rfl) dTg_typeByKind_102 (fun H locs hP hS => ?_)
          exact q_rl cx hr hP hS hQ h dTg_typeByKind_105
        · replace h := if_f h hc4
          rcases Decidable.em (σ.1 (cPk i) v2.toNatClampNeg = (5 : Int32)) with hc5 | hc5
          · replace h := if_t h hc5
            refine lv_tableIn (tgt := 106) hx hb dTg_typeByKind_6 (by rw [hc5]; decide) (by rw [hc5]; decide) (by rw [hc5]; rfl) (by decide) ?_
            refine lv_aload_n hx hb dTg_typeByKind_106 rfl (lv_at hl 0 rfl) ?_
            refine lv_aload_n hx hb dTg_typeByKind_107 rfl (lv_at hl 1 rfl) ?_
            refine lv_iload_n hx hb dTg_typeByKind_108 rfl (lv_at hl 2 rfl) ?_
            refine lv_lload_n hx hb dTg_typeByKind_109 rfl (lv_at hl 3 rfl) ?_
            refine lv_iload hx hb dTg_typeByKind_110 (lv_at hl 4 rfl) ?_
            obtain ⟨r22, σ21, h20, h⟩ := bn_some h
            refine q_cVl (rest := []) (As := [.ref (ad g (cP i)), .int v2, .long v3, .int v5]) cx hP hS hRk (c_Tg_typeFunction l g hg hd0 hrc hi h20) Y_Tg_typeFunction V_Tg_typeFunction t_436 (by omega) (by decide) (e_3 g _ _) rfl rfl hl.1 rfl (Nat.le_of_ble_eq_true rfl) dTg_typeByKind_112 (fun H locs hP hS => ?_)
            exact q_rl cx hr hP hS hQ h dTg_typeByKind_115
          · replace h := if_f h hc5
            rcases Decidable.em (σ.1 (cPk i) v2.toNatClampNeg = (6 : Int32)) with hc6 | hc6
            · replace h := if_t h hc6
              refine lv_tableIn (tgt := 116) hx hb dTg_typeByKind_6 (by rw [hc6]; decide) (by rw [hc6]; decide) (by rw [hc6]; rfl) (by decide) ?_
              refine lv_aload_n hx hb dTg_typeByKind_116 rfl (lv_at hl 0 rfl) ?_
              refine lv_aload_n hx hb dTg_typeByKind_117 rfl (lv_at hl 1 rfl) ?_
              refine lv_aload_n hx hb dTg_typeByKind_118 rfl (lv_at hl 1 rfl) ?_
              refine lv_iload_n hx hb dTg_typeByKind_119 rfl (lv_at hl 2 rfl) ?_
              refine lv_iconst (v := 0) hx hb dTg_typeByKind_120 (by decide) ?_
              obtain ⟨r25, σ24, h23, h⟩ := bn_some h
              refine q_cVi (rest := [.ref (ad g (cP i)), .ref (ad g 3)]) (As := [.int v2, .int (0 : Int32)]) cx hP hS hRk (c_Pr_part l g hg hi h23) Y_Pr_part V_Pr_part t_427 (by omega) (l_cP hi) (e_cP g hi _ _) rfl rfl hl.1 rfl (Nat.le_of_ble_eq_true rfl) dTg_typeByKind_121 (fun H locs hP hS => ?_)
              refine lv_aload_n hx hb dTg_typeByKind_124 rfl (lv_at hl 1 rfl) ?_
              refine g_Pr_types cx hP hi  t_42 dTg_typeByKind_125 ?_
              refine lv_iload_n hx hb dTg_typeByKind_128 rfl (lv_at hl 2 rfl) ?_
              obtain ⟨b26, h⟩ := gd_some h
              refine q_lald cx hP (l_cPt hi) (e_cPt g hi) b26 dTg_typeByKind_129 ?_
              refine lv_iload hx hb dTg_typeByKind_130 (lv_at hl 4 rfl) ?_
              refine lv_iconst (v := 1) hx hb dTg_typeByKind_132 (by decide) ?_
              refine lv_iadd hx hb dTg_typeByKind_133 ?_
              obtain ⟨r29, σ28, h27, h⟩ := bn_some h
              refine q_cVl (rest := []) (As := [.ref (ad g (cP i)), .int r25, .long (σ24.2 (cPt i) v2.toNatClampNeg), .int (v5 + (1 : Int32))]) cx hP hS hRk (hrc hi h27) Y_Tg_typeTerm V_Tg_typeTerm t_428 (by omega) (by decide) (e_3 g _ _) rfl rfl hl.1 rfl (Nat.le_of_ble_eq_true rfl) dTg_typeByKind_134 (fun H locs hP hS => ?_)
              refine lv_pop2_2 hx hb dTg_typeByKind_137 rfl ?_
              refine lv_aload_n hx hb dTg_typeByKind_138 rfl (lv_at hl 1 rfl) ?_
              refine g_Pr_types cx hP hi  t_42 dTg_typeByKind_139 ?_
              refine lv_iload_n hx hb dTg_typeByKind_142 rfl (lv_at hl 2 rfl) ?_
              obtain ⟨b30, h⟩ := gd_some h
              refine q_lald cx hP (l_cPt hi) (e_cPt g hi) b30 dTg_typeByKind_143 ?_
              exact q_rl cx hr hP hS hQ h dTg_typeByKind_144
            · replace h := if_f h hc6
              have hsw : (σ.1 (cPk i) v2.toNatClampNeg).toInt < 1 ∨ 6 < (σ.1 (cPk i) v2.toNatClampNeg).toInt := by
                have n1 := lv_neT (k := 1) (a := 1) hc1 rfl
                have n2 := lv_neT (k := 2) (a := 2) hc2 rfl
                have n3 := lv_neT (k := 3) (a := 3) hc3 rfl
                have n4 := lv_neT (k := 4) (a := 4) hc4 rfl
                have n5 := lv_neT (k := 5) (a := 5) hc5 rfl
                have n6 := lv_neT (k := 6) (a := 6) hc6 rfl
                omega
              refine lv_tableOut (tgt := 145) hx hb dTg_typeByKind_6 hsw (by decide) ?_
              refine lv_lconst (v := 1) hx hb dTg_typeByKind_145 rfl ?_
              exact q_rl cx hr hP hS hQ h dTg_typeByKind_146
theorem dTg_typeTerm_0 : decode cTg_typeTerm 0 = .ok (.iload_n 2, 1) := by decide +kernel
theorem dTg_typeTerm_1 : decode cTg_typeTerm 1 = .ok (.ifCond .lt 10, 3) := by decide +kernel
theorem dTg_typeTerm_4 : decode cTg_typeTerm 4 = .ok (.iload 5, 2) := by decide +kernel
theorem dTg_typeTerm_6 : decode cTg_typeTerm 6 = .ok (.bipush 12, 2) := by decide +kernel
theorem dTg_typeTerm_8 : decode cTg_typeTerm 8 = .ok (.if_icmp .lt 5, 3) := by decide +kernel
theorem dTg_typeTerm_11 : decode cTg_typeTerm 11 = .ok (.lconst 1, 1) := by decide +kernel
theorem dTg_typeTerm_12 : decode cTg_typeTerm 12 = .ok (.lreturn, 1) := by decide +kernel
theorem dTg_typeTerm_13 : decode cTg_typeTerm 13 = .ok (.aload_n 0, 1) := by decide +kernel
theorem dTg_typeTerm_14 : decode cTg_typeTerm 14 = .ok (.getfield 15, 3) := by decide +kernel
theorem dTg_typeTerm_17 : decode cTg_typeTerm 17 = .ok (.iload_n 2, 1) := by decide +kernel
theorem dTg_typeTerm_18 : decode cTg_typeTerm 18 = .ok (.lload_n 3, 1) := by decide +kernel
theorem dTg_typeTerm_19 : decode cTg_typeTerm 19 = .ok (.lastore, 1) := by decide +kernel
theorem dTg_typeTerm_20 : decode cTg_typeTerm 20 = .ok (.aload_n 0, 1) := by decide +kernel
theorem dTg_typeTerm_21 : decode cTg_typeTerm 21 = .ok (.getfield 18, 3) := by decide +kernel
theorem dTg_typeTerm_24 : decode cTg_typeTerm 24 = .ok (.iload_n 2, 1) := by decide +kernel
theorem dTg_typeTerm_25 : decode cTg_typeTerm 25 = .ok (.iconst 0, 1) := by decide +kernel
theorem dTg_typeTerm_26 : decode cTg_typeTerm 26 = .ok (.iastore, 1) := by decide +kernel
theorem dTg_typeTerm_27 : decode cTg_typeTerm 27 = .ok (.aload_n 0, 1) := by decide +kernel
theorem dTg_typeTerm_28 : decode cTg_typeTerm 28 = .ok (.aload_n 1, 1) := by decide +kernel
theorem dTg_typeTerm_29 : decode cTg_typeTerm 29 = .ok (.iload_n 2, 1) := by decide +kernel
theorem dTg_typeTerm_30 : decode cTg_typeTerm 30 = .ok (.lload_n 3, 1) := by decide +kernel
theorem dTg_typeTerm_31 : decode cTg_typeTerm 31 = .ok (.iload 5, 2) := by decide +kernel
theorem dTg_typeTerm_33 : decode cTg_typeTerm 33 = .ok (.invokevirtual 26, 3) := by decide +kernel
theorem dTg_typeTerm_36 : decode cTg_typeTerm 36 = .ok (.lstore 6, 2) := by decide +kernel
theorem dTg_typeTerm_38 : decode cTg_typeTerm 38 = .ok (.aload_n 0, 1) := by decide +kernel
theorem dTg_typeTerm_39 : decode cTg_typeTerm 39 = .ok (.getfield 9, 3) := by decide +kernel
theorem dTg_typeTerm_42 : decode cTg_typeTerm 42 = .ok (.iload_n 2, 1) := by decide +kernel
theorem dTg_typeTerm_43 : decode cTg_typeTerm 43 = .ok (.lload 6, 2) := by decide +kernel
theorem dTg_typeTerm_45 : decode cTg_typeTerm 45 = .ok (.lastore, 1) := by decide +kernel
theorem dTg_typeTerm_46 : decode cTg_typeTerm 46 = .ok (.aload_n 0, 1) := by decide +kernel
theorem dTg_typeTerm_47 : decode cTg_typeTerm 47 = .ok (.getfield 18, 3) := by decide +kernel
theorem dTg_typeTerm_50 : decode cTg_typeTerm 50 = .ok (.iload_n 2, 1) := by decide +kernel
theorem dTg_typeTerm_51 : decode cTg_typeTerm 51 = .ok (.iaload, 1) := by decide +kernel
theorem dTg_typeTerm_52 : decode cTg_typeTerm 52 = .ok (.ifCond .ne 26, 3) := by decide +kernel
theorem dTg_typeTerm_55 : decode cTg_typeTerm 55 = .ok (.lload_n 3, 1) := by decide +kernel
theorem dTg_typeTerm_56 : decode cTg_typeTerm 56 = .ok (.lconst 0, 1) := by decide +kernel
theorem dTg_typeTerm_57 : decode cTg_typeTerm 57 = .ok (.lcmp, 1) := by decide +kernel
theorem dTg_typeTerm_58 : decode cTg_typeTerm 58 = .ok (.ifCond .eq 20, 3) := by decide +kernel
theorem dTg_typeTerm_61 : decode cTg_typeTerm 61 = .ok (.lload 6, 2) := by decide +kernel
theorem dTg_typeTerm_63 : decode cTg_typeTerm 63 = .ok (.lload_n 3, 1) := by decide +kernel
theorem dTg_typeTerm_64 : decode cTg_typeTerm 64 = .ok (.iconst 0, 1) := by decide +kernel
theorem dTg_typeTerm_65 : decode cTg_typeTerm 65 = .ok (.invokestatic 30, 3) := by decide +kernel
theorem dTg_typeTerm_68 : decode cTg_typeTerm 68 = .ok (.ifCond .ne 10, 3) := by decide +kernel
theorem dTg_typeTerm_71 : decode cTg_typeTerm 71 = .ok (.aload_n 0, 1) := by decide +kernel
theorem dTg_typeTerm_72 : decode cTg_typeTerm 72 = .ok (.getfield 18, 3) := by decide +kernel
theorem dTg_typeTerm_75 : decode cTg_typeTerm 75 = .ok (.iload_n 2, 1) := by decide +kernel
theorem dTg_typeTerm_76 : decode cTg_typeTerm 76 = .ok (.iconst 4, 1) := by decide +kernel
theorem dTg_typeTerm_77 : decode cTg_typeTerm 77 = .ok (.iastore, 1) := by decide +kernel
theorem dTg_typeTerm_78 : decode cTg_typeTerm 78 = .ok (.aload_n 0, 1) := by decide +kernel
theorem dTg_typeTerm_79 : decode cTg_typeTerm 79 = .ok (.getfield 18, 3) := by decide +kernel
theorem dTg_typeTerm_82 : decode cTg_typeTerm 82 = .ok (.iload_n 2, 1) := by decide +kernel
theorem dTg_typeTerm_83 : decode cTg_typeTerm 83 = .ok (.iaload, 1) := by decide +kernel
theorem dTg_typeTerm_84 : decode cTg_typeTerm 84 = .ok (.ifCond .ne 8, 3) := by decide +kernel
theorem dTg_typeTerm_87 : decode cTg_typeTerm 87 = .ok (.lload 6, 2) := by decide +kernel
theorem dTg_typeTerm_89 : decode cTg_typeTerm 89 = .ok (.goto 4, 3) := by decide +kernel
theorem dTg_typeTerm_92 : decode cTg_typeTerm 92 = .ok (.lconst 1, 1) := by decide +kernel
theorem dTg_typeTerm_93 : decode cTg_typeTerm 93 = .ok (.lreturn, 1) := by decide +kernel
def f_Tg_typeTerm_J93 (rc : Nat → Int32 → Int64 → Int32 → Mem → Option (Int64 × Mem)) (i : Nat) (v2 : Int32) (v3 : Int64) (v5 : Int32) (v6 : Int64) (u0 : Int64) (σ : Mem) : Option (Int64 × Mem) :=
  some (u0, σ)
def f_Tg_typeTerm_J78 (rc : Nat → Int32 → Int64 → Int32 → Mem → Option (Int64 × Mem)) (i : Nat) (v2 : Int32) (v3 : Int64) (v5 : Int32) (v6 : Int64) (σ : Mem) : Option (Int64 × Mem) :=
  gd (inb v2 40) (
  if (σ.1 6 v2.toNatClampNeg) = 0 then (
  f_Tg_typeTerm_J93 rc i v2 v3 v5 v6 v6 σ)
  else (
  f_Tg_typeTerm_J93 rc i v2 v3 v5 v6 (1 : Int64) σ))
def f_Tg_typeTerm_J11 (rc : Nat → Int32 → Int64 → Int32 → Mem → Option (Int64 × Mem)) (i : Nat) (v2 : Int32) (v3 : Int64) (v5 : Int32) (σ : Mem) : Option (Int64 × Mem) :=
  some ((1 : Int64), σ)
def f_Tg_typeTerm (rc : Nat → Int32 → Int64 → Int32 → Mem → Option (Int64 × Mem)) (i : Nat) (v2 : Int32) (v3 : Int64) (v5 : Int32) (σ : Mem) : Option (Int64 × Mem) :=
  if v2 < 0 then (
  f_Tg_typeTerm_J11 rc i v2 v3 v5 σ)
  else (
  if v5 < (12 : Int32) then (
  gd (inb v2 40) (lt_ (sL σ 5 v2.toNatClampNeg v3) fun (σ3 : Mem) =>
  gd (inb v2 40) (lt_ (sI σ3 6 v2.toNatClampNeg (0 : Int32)) fun (σ5 : Mem) =>
  bn (f_Tg_typeByKind rc i v2 v3 v5 σ5) fun (r8 : Int64) (σ7 : Mem) =>
  gd (inb v2 40) (lt_ (sL σ7 4 v2.toNatClampNeg r8) fun (σ10 : Mem) =>
  gd (inb v2 40) (
  if (σ10.1 6 v2.toNatClampNeg) = 0 then (
  if (lg_cmp v3 (0 : Int64)) = 0 then (
  f_Tg_typeTerm_J78 rc i v2 v3 v5 r8 σ10)
  else (
  bn (F_Ty_consistent 28 r8 v3 (0 : Int32) σ10) fun (r14 : Int32) (σ13 : Mem) =>
  if r14 = 0 then (
  gd (inb v2 40) (lt_ (sI σ13 6 v2.toNatClampNeg (4 : Int32)) fun (σ16 : Mem) =>
  f_Tg_typeTerm_J78 rc i v2 v3 v5 r8 σ16))
  else (
  f_Tg_typeTerm_J78 rc i v2 v3 v5 r8 σ13)))
  else (
  f_Tg_typeTerm_J78 rc i v2 v3 v5 r8 σ10))))))
  else (
  f_Tg_typeTerm_J11 rc i v2 v3 v5 σ))
set_option maxHeartbeats 4000000 in
set_option maxRecDepth 100000 in
theorem c_Tg_typeTerm (l : Launch) (g : Gw) (hg : wInj g) {rc : Nat → Int32 → Int64 → Int32 → Mem → Option (Int64 × Mem)} {d0 : Nat} (hd0 : 31 ≤ d0) (hrc : ∀ {i : Nat} (hi : i < 17) {v2 : Int32} {v3 : Int64} {v5 : Int32} {r0 : Int64} {σ σ0 : Mem}, rc i v2 v3 v5 σ = some (r0, σ0) → KL l yTg_typeTerm cTg_typeTerm 8 (some .long) d0 g [.ref (ad g 3), .ref (ad g (cP i)), .int v2, .long v3, .int v5] σ r0 σ0) {i : Nat} (hi : i < 17) {v2 : Int32} {v3 : Int64} {v5 : Int32} {r0 : Int64} {σ σ0 : Mem} (h : f_Tg_typeTerm rc i v2 v3 v5 σ = some (r0, σ0)) : KL l yTg_typeTerm cTg_typeTerm 8 (some .long) (d0 + 3) g [.ref (ad g 3), .ref (ad g (cP i)), .int v2, .long v3, .int v5] σ r0 σ0 := by
  refine q_met g hg (own := "TermBench$Typing") rfl rfl (Nat.le_of_ble_eq_true rfl) (fun p e s m args below meth c R Q cx hRk hr hQ H locs ls hP hS hl => ?_)
  have hx := cx.1
  have hb := cx.2.1
  have hown := cx.2.2.2.1
  have hts := cx.2.2.2.2.1
  have hl : lv_has ls 8 [(0, .ref (ad g 3)), (1, .ref (ad g (cP i))), (2, .int v2), (3, .long v3), (5, .int v5)] := hl
  have J93 : ∀ (v2 : Int32) (v3 : Int64) (v5 : Int32) (v6 : Int64) (u0 : Int64) (σ : Mem), f_Tg_typeTerm_J93 rc i v2 v3 v5 v6 u0 σ = some (r0, σ0) → ∀ (H : Heap) (locs : List Loc) (ls : Array Slot), lv_has ls 8 [(0, .ref (ad g 3)), (1, .ref (ad g (cP i))), (2, .int v2), (3, .long v3), (5, .int v5), (6, .long v6)] → Wd g σ H → va_S (wA g) s.heap H locs → W p l e R s m args below meth c H locs 0 0 Q (F0 m 93 ls [.long u0]) := by
    intro v2 v3 v5 v6 u0 σ h H locs ls hl hP hS
    unfold f_Tg_typeTerm_J93 at h
    exact q_rl cx hr hP hS hQ h dTg_typeTerm_93
  have J78 : ∀ (v2 : Int32) (v3 : Int64) (v5 : Int32) (v6 : Int64) (σ : Mem), f_Tg_typeTerm_J78 rc i v2 v3 v5 v6 σ = some (r0, σ0) → ∀ (H : Heap) (locs : List Loc) (ls : Array Slot), lv_has ls 8 [(0, .ref (ad g 3)), (1, .ref (ad g (cP i))), (2, .int v2), (3, .long v3), (5, .int v5), (6, .long v6)] → Wd g σ H → va_S (wA g) s.heap H locs → W p l e R s m args below meth c H locs 0 0 Q (F0 m 78 ls []) := by
    intro v2 v3 v5 v6 σ h H locs ls hl hP hS
    unfold f_Tg_typeTerm_J78 at h
    refine lv_aload_n hx hb dTg_typeTerm_78 rfl (lv_at hl 0 rfl) ?_
    refine g_Tg_marks cx hP  t_93 dTg_typeTerm_79 ?_
    refine lv_iload_n hx hb dTg_typeTerm_82 rfl (lv_at hl 2 rfl) ?_
    obtain ⟨b1, h⟩ := gd_some h
    refine q_iald cx hP (by decide) (e_6 g) b1 dTg_typeTerm_83 ?_
    refine lv_if_ne (tgt := 92) hx hb dTg_typeTerm_84 (by decide) (fun hc => ?_) (fun hc => ?_)
    · replace h := if_f h hc
      refine lv_lconst (v := 1) hx hb dTg_typeTerm_92 rfl ?_
      exact J93 _ _ _ _ _ _ h _ _ _ (lv_sub hl [0, 1, 2, 3, 4, 5] rfl) hP hS
    · replace h := if_t h hc
      refine lv_lload hx hb dTg_typeTerm_87 (lv_at hl 5 rfl) ?_
      refine lv_goto (tgt := 93) hx hb dTg_typeTerm_89 (by decide) ?_
      exact J93 _ _ _ _ _ _ h _ _ _ (lv_sub hl [0, 1, 2, 3, 4, 5] rfl) hP hS
  have J11 : ∀ (v2 : Int32) (v3 : Int64) (v5 : Int32) (σ : Mem), f_Tg_typeTerm_J11 rc i v2 v3 v5 σ = some (r0, σ0) → ∀ (H : Heap) (locs : List Loc) (ls : Array Slot), lv_has ls 8 [(0, .ref (ad g 3)), (1, .ref (ad g (cP i))), (2, .int v2), (3, .long v3), (5, .int v5)] → Wd g σ H → va_S (wA g) s.heap H locs → W p l e R s m args below meth c H locs 0 0 Q (F0 m 11 ls []) := by
    intro v2 v3 v5 σ h H locs ls hl hP hS
    unfold f_Tg_typeTerm_J11 at h
    refine lv_lconst (v := 1) hx hb dTg_typeTerm_11 rfl ?_
    exact q_rl cx hr hP hS hQ h dTg_typeTerm_12
  unfold f_Tg_typeTerm at h
  refine lv_iload_n hx hb dTg_typeTerm_0 rfl (lv_at hl 2 rfl) ?_
  refine lv_if_lt (tgt := 11) hx hb dTg_typeTerm_1 (by decide) (fun hc => ?_) (fun hc => ?_)
  · replace h := if_t h hc
    exact J11 _ _ _ _ h _ _ _ (lv_sub hl [0, 1, 2, 3, 4] rfl) hP hS
  · replace h := if_f h hc
    refine lv_iload hx hb dTg_typeTerm_4 (lv_at hl 4 rfl) ?_
    refine lv_bipush (v := 12) hx hb dTg_typeTerm_6 (by decide) ?_
    refine lv_icmp_lt (tgt := 13) hx hb dTg_typeTerm_8 (by decide) (fun hc => ?_) (fun hc => ?_)
    · replace h := if_t h hc
      refine lv_aload_n hx hb dTg_typeTerm_13 rfl (lv_at hl 0 rfl) ?_
      refine g_Tg_expectedTypes cx hP  t_91 dTg_typeTerm_14 ?_
      refine lv_iload_n hx hb dTg_typeTerm_17 rfl (lv_at hl 2 rfl) ?_
      refine lv_lload_n hx hb dTg_typeTerm_18 rfl (lv_at hl 3 rfl) ?_
      obtain ⟨b2, h⟩ := gd_some h
      obtain ⟨σ3, eσ3, h⟩ := lt_some h
      refine q_last cx hP hS (by decide) (e_5 g) b2 dTg_typeTerm_19 eσ3 (fun H locs hP hS => ?_)
      refine lv_aload_n hx hb dTg_typeTerm_20 rfl (lv_at hl 0 rfl) ?_
      refine g_Tg_marks cx hP  t_93 dTg_typeTerm_21 ?_
      refine lv_iload_n hx hb dTg_typeTerm_24 rfl (lv_at hl 2 rfl) ?_
      refine lv_iconst (v := 0) hx hb dTg_typeTerm_25 (by decide) ?_
      obtain ⟨b4, h⟩ := gd_some h
      obtain ⟨σ5, eσ5, h⟩ := lt_some h
      refine q_iast cx hP hS (by decide) (e_6 g) b4 dTg_typeTerm_26 eσ5 (fun H locs hP hS => ?_)
      refine lv_aload_n hx hb dTg_typeTerm_27 rfl (lv_at hl 0 rfl) ?_
      refine lv_aload_n hx hb dTg_typeTerm_28 rfl (lv_at hl 1 rfl) ?_
      refine lv_iload_n hx hb dTg_typeTerm_29 rfl (lv_at hl 2 rfl) ?_
      refine lv_lload_n hx hb dTg_typeTerm_30 rfl (lv_at hl 3 rfl) ?_
      refine lv_iload hx hb dTg_typeTerm_31 (lv_at hl 4 rfl) ?_
      obtain ⟨r8, σ7, h6, h⟩ := bn_some h
      refine q_cVl (rest := []) (As := [.ref (ad g (cP i)), .int v2, .long v3, .int v5]) cx hP hS hRk (c_Tg_typeByKind l g hg hd0 hrc hi h6) Y_Tg_typeByKind V_Tg_typeByKind t_414 (by omega) (by decide) (e_3 g _ _) rfl rfl hl.1 rfl (Nat.le_of_ble_eq_true rfl) dTg_typeTerm_33 (fun H locs hP hS => ?_)
      refine lv_lstore (lv' := [(6, .long r8), (0, .ref (ad g 3)), (1, .ref (ad g (cP i))), (2, .int v2), (3, .long v3), (5, .int v5)]) hx hb dTg_typeTerm_36 hl (Nat.le_of_ble_eq_true rfl) rfl (fun ls hl => ?_)
      refine lv_aload_n hx hb dTg_typeTerm_38 rfl (lv_at hl 1 rfl) ?_
      refine g_Tg_gotTypes cx hP  t_89 dTg_typeTerm_39 ?_
      refine lv_iload_n hx hb dTg_typeTerm_42 rfl (lv_at hl 3 rfl) ?_
      refine lv_lload hx hb dTg_typeTerm_43 (lv_at hl 0 rfl) ?_
      obtain ⟨b9, h⟩ := gd_some h
      obtain ⟨σ10, eσ10, h⟩ := lt_some h
      refine q_last cx hP hS (by decide) (e_4 g) b9 dTg_typeTerm_45 eσ10 (fun H locs hP hS => ?_)
      refine lv_aload_n hx hb dTg_typeTerm_46 rfl (lv_at hl 1 rfl) ?_
      refine g_Tg_marks cx hP  t_93 dTg_typeTerm_47 ?_
      refine lv_iload_n hx hb dTg_typeTerm_50 rfl (lv_at hl 3 rfl) ?_
      obtain ⟨b11, h⟩ := gd_some h
      refine q_iald cx hP (by decide) (e_6 g) b11 dTg_typeTerm_51 ?_
      refine lv_if_ne (tgt := 78) hx hb dTg_typeTerm_52 (by decide) (fun hc => ?_) (fun hc => ?_)
      · replace h := if_f h hc
        exact J78 _ _ _ _ _ h _ _ _ (lv_sub hl [1, 2, 3, 4, 5, 0] rfl) hP hS
      · replace h := if_t h hc
        refine lv_lload_n hx hb dTg_typeTerm_55 rfl (lv_at hl 4 rfl) ?_
        refine lv_lconst (v := 0) hx hb dTg_typeTerm_56 rfl ?_
        refine W.lcmp hx hb dTg_typeTerm_57 ?_
        refine lv_if_eq (tgt := 78) hx hb dTg_typeTerm_58 (by decide) (fun hc => ?_) (fun hc => ?_)
        · replace h := if_t h hc
          exact J78 _ _ _ _ _ h _ _ _ (lv_sub hl [1, 2, 3, 4, 5, 0] rfl) hP hS
        · replace h := if_f h hc
          refine lv_lload hx hb dTg_typeTerm_61 (lv_at hl 0 rfl) ?_
          refine lv_lload_n hx hb dTg_typeTerm_63 rfl (lv_at hl 4 rfl) ?_
          refine lv_iconst (v := 0) hx hb dTg_typeTerm_64 (by decide) ?_
          obtain ⟨r14, σ13, h12, h⟩ := bn_some h
          refine q_cSi (rest := []) (As := [.long r8, .long v3, .int (0 : Int32)]) cx hP hS hRk (C_Ty_consistent l g hg 28 h12) Y_Ty_consistent S_Ty_consistent t_440 (by omega) rfl hl.1 rfl (Nat.le_of_ble_eq_true rfl) dTg_typeTerm_65 (fun H locs hP hS => ?_)
          refine lv_if_ne (tgt := 78) hx hb dTg_typeTerm_68 (by decide) (fun hc => ?_) (fun hc => ?_)
          · replace h := if_f h hc
            exact J78 _ _ _ _ _ h _ _ _ (lv_sub hl [1, 2, 3, 4, 5, 0] rfl) hP hS
          · replace h := if_t h hc
            refine lv_aload_n hx hb dTg_typeTerm_71 rfl (lv_at hl 1 rfl) ?_
            refine g_Tg_marks cx hP  t_93 dTg_typeTerm_72 ?_
            refine lv_iload_n hx hb dTg_typeTerm_75 rfl (lv_at hl 3 rfl) ?_
            refine lv_iconst (v := 4) hx hb dTg_typeTerm_76 (by decide) ?_
            obtain ⟨b15, h⟩ := gd_some h
            obtain ⟨σ16, eσ16, h⟩ := lt_some h
            refine q_iast cx hP hS (by decide) (e_6 g) b15 dTg_typeTerm_77 eσ16 (fun H locs hP hS => ?_)
            exact J78 _ _ _ _ _ h _ _ _ (lv_sub hl [1, 2, 3, 4, 5, 0] rfl) hP hS
    · replace h := if_f h hc
      exact J11 _ _ _ _ h _ _ _ (lv_sub hl [0, 1, 2, 3, 4] rfl) hP hS
def F_Tg_typeTerm : Nat → Nat → Int32 → Int64 → Int32 → Mem → Option (Int64 × Mem)
  | 0 => fun _ _ _ _ _ => none
  | n + 1 => fun a0 a1 a2 a3 a4 => f_Tg_typeTerm (F_Tg_typeTerm n) a0 a1 a2 a3 a4
theorem C_Tg_typeTerm (l : Launch) (g : Gw) (hg : wInj g) : ∀ (n : Nat) {i : Nat} (hi : i < 17) {v2 : Int32} {v3 : Int64} {v5 : Int32} {r0 : Int64} {σ σ0 : Mem}, F_Tg_typeTerm n i v2 v3 v5 σ = some (r0, σ0) → KL l yTg_typeTerm cTg_typeTerm 8 (some .long) (31 + 3 * n) g [.ref (ad g 3), .ref (ad g (cP i)), .int v2, .long v3, .int v5] σ r0 σ0 := by
  intro n
  induction n with
  | zero => intros; rename_i h; simp [F_Tg_typeTerm] at h
  | succ n ih =>
    intros
    rename_i h
    exact c_Tg_typeTerm l g hg (d0 := 31 + 3 * n) (Nat.le_add_right _ _) ih (by assumption) h
theorem dTg_countMarks_0 : decode cTg_countMarks 0 = .ok (.iconst 0, 1) := by decide +kernel
theorem dTg_countMarks_1 : decode cTg_countMarks 1 = .ok (.istore_n 2, 1) := by decide +kernel
theorem dTg_countMarks_2 : decode cTg_countMarks 2 = .ok (.iconst 0, 1) := by decide +kernel
theorem dTg_countMarks_3 : decode cTg_countMarks 3 = .ok (.istore_n 3, 1) := by decide +kernel
theorem dTg_countMarks_4 : decode cTg_countMarks 4 = .ok (.iload_n 3, 1) := by decide +kernel
theorem dTg_countMarks_5 : decode cTg_countMarks 5 = .ok (.iload_n 1, 1) := by decide +kernel
theorem dTg_countMarks_6 : decode cTg_countMarks 6 = .ok (.if_icmp .ge 21, 3) := by decide +kernel
theorem dTg_countMarks_9 : decode cTg_countMarks 9 = .ok (.aload_n 0, 1) := by decide +kernel
theorem dTg_countMarks_10 : decode cTg_countMarks 10 = .ok (.getfield 18, 3) := by decide +kernel
theorem dTg_countMarks_13 : decode cTg_countMarks 13 = .ok (.iload_n 3, 1) := by decide +kernel
theorem dTg_countMarks_14 : decode cTg_countMarks 14 = .ok (.iaload, 1) := by decide +kernel
theorem dTg_countMarks_15 : decode cTg_countMarks 15 = .ok (.ifCond .eq 6, 3) := by decide +kernel
theorem dTg_countMarks_18 : decode cTg_countMarks 18 = .ok (.iinc 2 1, 3) := by decide +kernel
theorem dTg_countMarks_21 : decode cTg_countMarks 21 = .ok (.iinc 3 1, 3) := by decide +kernel
theorem dTg_countMarks_24 : decode cTg_countMarks 24 = .ok (.goto (-20), 3) := by decide +kernel
theorem dTg_countMarks_27 : decode cTg_countMarks 27 = .ok (.iload_n 2, 1) := by decide +kernel
theorem dTg_countMarks_28 : decode cTg_countMarks 28 = .ok (.ireturn, 1) := by decide +kernel
def f_Tg_countMarks_J21  (v1 : Int32) (v2 : Int32) (v3 : Int32) (σ : Mem) : Option ((Int32 × Int32 × Mem) ⊕ (Int32 × Mem)) :=
  lt_ (v3 + 1) fun (x1 : Int32) =>
  some (.inl (v2, x1, σ))
def f_Tg_countMarks_L4  (v1 : Int32) (v2 : Int32) (v3 : Int32) (σ : Mem) : Option ((Int32 × Int32 × Mem) ⊕ (Int32 × Mem)) :=
  if v1 ≤ v3 then (
  inrM (some (v2, σ)))
  else (
  gd (inb v3 40) (
  if (σ.1 6 v3.toNatClampNeg) = 0 then (
  f_Tg_countMarks_J21 v1 v2 v3 σ)
  else (
  lt_ (v2 + 1) fun (x4 : Int32) =>
  f_Tg_countMarks_J21 v1 x4 v3 σ)))
def f_Tg_countMarks  (v1 : Int32) (σ : Mem) : Option (Int32 × Mem) :=
  lt_ (0 : Int32) fun (x5 : Int32) =>
  lt_ (0 : Int32) fun (x6 : Int32) =>
  loopF (fun (q : (Int32 × Int32 × Mem)) => f_Tg_countMarks_L4 v1 q.1 q.2.1 q.2.2) FU (x5, x6, σ)
set_option maxHeartbeats 4000000 in
set_option maxRecDepth 100000 in
theorem c_Tg_countMarks (l : Launch) (g : Gw) (hg : wInj g) {v1 : Int32} {r0 : Int32} {σ σ0 : Mem} (h : f_Tg_countMarks v1 σ = some (r0, σ0)) : KI l yTg_countMarks cTg_countMarks 4 (some .int) 0 g [.ref (ad g 3), .int v1] σ r0 σ0 := by
  refine q_met g hg (own := "TermBench$Typing") rfl rfl (Nat.le_of_ble_eq_true rfl) (fun p e s m args below meth c R Q cx hRk hr hQ H locs ls hP hS hl => ?_)
  have hx := cx.1
  have hb := cx.2.1
  have hown := cx.2.2.2.1
  have hts := cx.2.2.2.2.1
  have hl : lv_has ls 4 [(0, .ref (ad g 3)), (1, .int v1)] := hl
  unfold f_Tg_countMarks at h
  refine lv_iconst (v := 0) hx hb dTg_countMarks_0 (by decide) ?_
  obtain ⟨x5, ex5, h⟩ := lt_some h
  refine q_nmi ex5 ?_
  refine lv_istore_n (lv' := [(2, .int x5), (0, .ref (ad g 3)), (1, .int v1)]) hx hb dTg_countMarks_1 rfl hl (Nat.le_of_ble_eq_true rfl) rfl (fun ls hl => ?_)
  refine lv_iconst (v := 0) hx hb dTg_countMarks_2 (by decide) ?_
  obtain ⟨x6, ex6, h⟩ := lt_some h
  refine q_nmi ex6 ?_
  refine lv_istore_n (lv' := [(3, .int x6), (2, .int x5), (0, .ref (ad g 3)), (1, .int v1)]) hx hb dTg_countMarks_3 rfl hl (Nat.le_of_ble_eq_true rfl) rfl (fun ls hl => ?_)
  have L4 : ∀ (n : Nat) (v1 : Int32) (v2 : Int32) (v3 : Int32) (σ : Mem), loopF (fun (q : (Int32 × Int32 × Mem)) => f_Tg_countMarks_L4 v1 q.1 q.2.1 q.2.2) n (v2, v3, σ) = some (r0, σ0) → ∀ (H : Heap) (locs : List Loc) (ls : Array Slot), lv_has ls 4 [(0, .ref (ad g 3)), (1, .int v1), (2, .int v2), (3, .int v3)] → Wd g σ H → va_S (wA g) s.heap H locs → W p l e R s m args below meth c H locs 0 0 Q (F0 m 4 ls []) := by
    intro n
    induction n with
    | zero => intro v1 v2 v3 σ h; exact (loopF_zero h).elim
    | succ n ih4 =>
      intro v1 v2 v3 σ h H locs ls hl hP hS
      obtain ⟨o4, h, K4, E4⟩ := loopF_succ h
      have h : f_Tg_countMarks_L4 v1 v2 v3 σ = some o4 := h
      have J21 : ∀ (v2 : Int32) (v3 : Int32) (σ : Mem), f_Tg_countMarks_J21 v1 v2 v3 σ = some o4 → ∀ (H : Heap) (locs : List Loc) (ls : Array Slot), lv_has ls 4 [(0, .ref (ad g 3)), (1, .int v1), (2, .int v2), (3, .int v3)] → Wd g σ H → va_S (wA g) s.heap H locs → W p l e R s m args below meth c H locs 0 0 Q (F0 m 21 ls []) := by
        intro v2 v3 σ h H locs ls hl hP hS
        unfold f_Tg_countMarks_J21 at h
        obtain ⟨x1, ex1, h⟩ := lt_some h
        refine lv_iinc (lv' := [(3, .int x1), (0, .ref (ad g 3)), (1, .int v1), (2, .int v2)]) hx hb dTg_countMarks_21 hl (k := 3) rfl (q_inc ex1 (by decide)) (Nat.le_of_ble_eq_true rfl) rfl (fun ls hl => ?_)
        refine lv_goto (tgt := 4) hx hb dTg_countMarks_24 (by decide) ?_
        exact ih4 _ _ _ _ (K4 _ (Option.some.inj h).symm) _ _ _ (lv_sub hl [1, 2, 3, 0] rfl) hP hS
      unfold f_Tg_countMarks_L4 at h
      refine lv_iload_n hx hb dTg_countMarks_4 rfl (lv_at hl 3 rfl) ?_
      refine lv_iload_n hx hb dTg_countMarks_5 rfl (lv_at hl 1 rfl) ?_
      refine lv_icmp_ge (tgt := 27) hx hb dTg_countMarks_6 (by decide) (fun hc => ?_) (fun hc => ?_)
      · replace h := if_t h hc
        obtain ⟨z2, h, ez2⟩ := inrM_some h
        rw [E4 z2 ez2] at h
        refine lv_iload_n hx hb dTg_countMarks_27 rfl (lv_at hl 2 rfl) ?_
        exact q_ri cx hr rfl hP hS hQ h dTg_countMarks_28
      · replace h := if_f h hc
        refine lv_aload_n hx hb dTg_countMarks_9 rfl (lv_at hl 0 rfl) ?_
        refine g_Tg_marks cx hP  t_93 dTg_countMarks_10 ?_
        refine lv_iload_n hx hb dTg_countMarks_13 rfl (lv_at hl 3 rfl) ?_
        obtain ⟨b3, h⟩ := gd_some h
        refine q_iald cx hP (by decide) (e_6 g) b3 dTg_countMarks_14 ?_
        refine lv_if_eq (tgt := 21) hx hb dTg_countMarks_15 (by decide) (fun hc => ?_) (fun hc => ?_)
        · replace h := if_t h hc
          exact J21 _ _ _ h _ _ _ (lv_sub hl [0, 1, 2, 3] rfl) hP hS
        · replace h := if_f h hc
          obtain ⟨x4, ex4, h⟩ := lt_some h
          refine lv_iinc (lv' := [(2, .int x4), (0, .ref (ad g 3)), (1, .int v1), (3, .int v3)]) hx hb dTg_countMarks_18 hl (k := 2) rfl (q_inc ex4 (by decide)) (Nat.le_of_ble_eq_true rfl) rfl (fun ls hl => ?_)
          exact J21 _ _ _ h _ _ _ (lv_sub hl [1, 2, 0, 3] rfl) hP hS
  exact L4 _ _ _ _ _ h _ _ _ (lv_sub hl [2, 3, 1, 0] rfl) hP hS
