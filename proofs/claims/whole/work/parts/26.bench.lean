/-! 26.bench, by program: pure functions and contracts -/
theorem dBe_fillHole_0 : decode cBe_fillHole 0 = .ok (.aload_n 0, 1) := by decide +kernel
theorem dBe_fillHole_1 : decode cBe_fillHole 1 = .ok (.getfield 10, 3) := by decide +kernel
theorem dBe_fillHole_4 : decode cBe_fillHole 4 = .ok (.invokevirtual 53, 3) := by decide +kernel
theorem dBe_fillHole_7 : decode cBe_fillHole 7 = .ok (.invokevirtual 57, 3) := by decide +kernel
theorem dBe_fillHole_10 : decode cBe_fillHole 10 = .ok (.ifCond .ne 5, 3) := by decide +kernel
theorem dBe_fillHole_13 : decode cBe_fillHole 13 = .ok (.iconst 0, 1) := by decide +kernel
theorem dBe_fillHole_14 : decode cBe_fillHole 14 = .ok (.ireturn, 1) := by decide +kernel
theorem dBe_fillHole_15 : decode cBe_fillHole 15 = .ok (.aload_n 0, 1) := by decide +kernel
theorem dBe_fillHole_16 : decode cBe_fillHole 16 = .ok (.getfield 10, 3) := by decide +kernel
theorem dBe_fillHole_19 : decode cBe_fillHole 19 = .ok (.invokevirtual 63, 3) := by decide +kernel
theorem dBe_fillHole_22 : decode cBe_fillHole 22 = .ok (.iload_n 1, 1) := by decide +kernel
theorem dBe_fillHole_23 : decode cBe_fillHole 23 = .ok (.iload_n 2, 1) := by decide +kernel
theorem dBe_fillHole_24 : decode cBe_fillHole 24 = .ok (.invokevirtual 146, 3) := by decide +kernel
theorem dBe_fillHole_27 : decode cBe_fillHole 27 = .ok (.iconst 1, 1) := by decide +kernel
theorem dBe_fillHole_28 : decode cBe_fillHole 28 = .ok (.ireturn, 1) := by decide +kernel
def f_Be_fillHole  (v1 : Int32) (v2 : Int32) (σ : Mem) : Option (Int32 × Mem) :=
  bn (f_Hi_present σ) fun (i3 : Nat) (σ2 : Mem) =>
  gd (decide (i3 < 17)) (
  bn (f_Pr_isOnHole i3 σ2) fun (r7 : Int32) (σ6 : Mem) =>
  if r7 = 0 then (
  some ((0 : Int32), σ6))
  else (
  bn (f_Hi_keep σ6) fun (i10 : Nat) (σ9 : Mem) =>
  gd (decide (i10 < 17)) (
  bn (f_Pr_fill i10 v1 v2 σ9) fun (_ : Unit) (σ13 : Mem) =>
  some ((1 : Int32), σ13))))
set_option maxHeartbeats 4000000 in
set_option maxRecDepth 100000 in
theorem c_Be_fillHole (l : Launch) (g : Gw) (hg : wInj g) {v1 : Int32} {v2 : Int32} {r0 : Int32} {σ σ0 : Mem} (h : f_Be_fillHole v1 v2 σ = some (r0, σ0)) : KI l yBe_fillHole cBe_fillHole 3 (some .boolean) 3 g [.ref (ad g 0), .int v1, .int v2] σ r0 σ0 := by
  refine q_met g hg (own := "TermBench") rfl rfl (Nat.le_of_ble_eq_true rfl) (fun p e s m args below meth c R Q cx hRk hr hQ H locs ls hP hS hl => ?_)
  have hx := cx.1
  have hb := cx.2.1
  have hown := cx.2.2.2.1
  have hts := cx.2.2.2.2.1
  have hl : lv_has ls 3 [(0, .ref (ad g 0)), (1, .int v1), (2, .int v2)] := hl
  unfold f_Be_fillHole at h
  refine lv_aload_n hx hb dBe_fillHole_0 rfl (lv_at hl 0 rfl) ?_
  refine g_Be_history cx hP  t_157 dBe_fillHole_1 ?_
  obtain ⟨i3, σ2, h1, h⟩ := bn_some h
  obtain ⟨b4, h⟩ := gd_some h
  have hi3 : i3 < 17 := of_decide_eq_true b4
  refine q_cVr (rest := []) (As := []) cx hP hS hRk (c_Hi_present l g hg h1) Y_Hi_present V_Hi_present t_178 (by decide) (by decide) (e_1 g _ _) rfl rfl hl.1 rfl (Nat.le_of_ble_eq_true rfl) dBe_fillHole_4 (fun H locs hP hS => ?_)
  obtain ⟨r7, σ6, h5, h⟩ := bn_some h
  refine q_cVi (rest := []) (As := []) cx hP hS hRk (c_Pr_isOnHole l g hg hi3 h5) Y_Pr_isOnHole V_Pr_isOnHole t_182 (by decide) (l_cP hi3) (e_cP g hi3 _ _) rfl rfl hl.1 rfl (Nat.le_of_ble_eq_true rfl) dBe_fillHole_7 (fun H locs hP hS => ?_)
  refine lv_if_ne (tgt := 15) hx hb dBe_fillHole_10 (by decide) (fun hc => ?_) (fun hc => ?_)
  · replace h := if_f h hc
    refine lv_aload_n hx hb dBe_fillHole_15 rfl (lv_at hl 0 rfl) ?_
    refine g_Be_history cx hP  t_157 dBe_fillHole_16 ?_
    obtain ⟨i10, σ9, h8, h⟩ := bn_some h
    obtain ⟨b11, h⟩ := gd_some h
    have hi10 : i10 < 17 := of_decide_eq_true b11
    refine q_cVr (rest := []) (As := []) cx hP hS hRk (c_Hi_keep l g hg h8) Y_Hi_keep V_Hi_keep t_186 (by decide) (by decide) (e_1 g _ _) rfl rfl hl.1 rfl (Nat.le_of_ble_eq_true rfl) dBe_fillHole_19 (fun H locs hP hS => ?_)
    refine lv_iload_n hx hb dBe_fillHole_22 rfl (lv_at hl 1 rfl) ?_
    refine lv_iload_n hx hb dBe_fillHole_23 rfl (lv_at hl 2 rfl) ?_
    obtain ⟨rh12, σ13, h12, h⟩ := bn_some h
    refine q_cVv (rest := []) (As := [.int v1, .int v2]) cx hP hS hRk (c_Pr_fill l g hg hi10 h12) Y_Pr_fill V_Pr_fill t_201 (by decide) (l_cP hi10) (e_cP g hi10 _ _) rfl rfl hl.1 rfl (Nat.le_of_ble_eq_true rfl) dBe_fillHole_24 (fun H locs hP hS => ?_)
    refine lv_iconst (v := 1) hx hb dBe_fillHole_27 (by decide) ?_
    exact q_ri cx hr rfl hP hS hQ h dBe_fillHole_28
  · replace h := if_t h hc
    refine lv_iconst (v := 0) hx hb dBe_fillHole_13 (by decide) ?_
    exact q_ri cx hr rfl hP hS hQ h dBe_fillHole_14
theorem dBe_number_0 : decode cBe_number 0 = .ok (.iload_n 1, 1) := by decide +kernel
theorem dBe_number_1 : decode cBe_number 1 = .ok (.sipush (-999), 3) := by decide +kernel
theorem dBe_number_4 : decode cBe_number 4 = .ok (.if_icmp .lt 10, 3) := by decide +kernel
theorem dBe_number_7 : decode cBe_number 7 = .ok (.iload_n 1, 1) := by decide +kernel
theorem dBe_number_8 : decode cBe_number 8 = .ok (.sipush 999, 3) := by decide +kernel
theorem dBe_number_11 : decode cBe_number 11 = .ok (.if_icmp .le 5, 3) := by decide +kernel
theorem dBe_number_14 : decode cBe_number 14 = .ok (.iconst 0, 1) := by decide +kernel
theorem dBe_number_15 : decode cBe_number 15 = .ok (.ireturn, 1) := by decide +kernel
theorem dBe_number_16 : decode cBe_number 16 = .ok (.aload_n 0, 1) := by decide +kernel
theorem dBe_number_17 : decode cBe_number 17 = .ok (.iconst 1, 1) := by decide +kernel
theorem dBe_number_18 : decode cBe_number 18 = .ok (.iload_n 1, 1) := by decide +kernel
theorem dBe_number_19 : decode cBe_number 19 = .ok (.invokevirtual 37, 3) := by decide +kernel
theorem dBe_number_22 : decode cBe_number 22 = .ok (.ireturn, 1) := by decide +kernel
def f_Be_number_J14  (v1 : Int32) (σ : Mem) : Option (Int32 × Mem) :=
  some ((0 : Int32), σ)
def f_Be_number  (v1 : Int32) (σ : Mem) : Option (Int32 × Mem) :=
  if v1 < ((-999) : Int32) then (
  f_Be_number_J14 v1 σ)
  else (
  if v1 ≤ (999 : Int32) then (
  bn (f_Be_fillHole (1 : Int32) v1 σ) fun (r3 : Int32) (σ2 : Mem) =>
  gd (isB r3) (some (r3, σ2)))
  else (
  f_Be_number_J14 v1 σ))
set_option maxHeartbeats 4000000 in
set_option maxRecDepth 100000 in
theorem c_Be_number (l : Launch) (g : Gw) (hg : wInj g) {v1 : Int32} {r0 : Int32} {σ σ0 : Mem} (h : f_Be_number v1 σ = some (r0, σ0)) : KI l yBe_number cBe_number 2 (some .boolean) 4 g [.ref (ad g 0), .int v1] σ r0 σ0 := by
  refine q_met g hg (own := "TermBench") rfl rfl (Nat.le_of_ble_eq_true rfl) (fun p e s m args below meth c R Q cx hRk hr hQ H locs ls hP hS hl => ?_)
  have hx := cx.1
  have hb := cx.2.1
  have hown := cx.2.2.2.1
  have hts := cx.2.2.2.2.1
  have hl : lv_has ls 2 [(0, .ref (ad g 0)), (1, .int v1)] := hl
  have J14 : ∀ (v1 : Int32) (σ : Mem), f_Be_number_J14 v1 σ = some (r0, σ0) → ∀ (H : Heap) (locs : List Loc) (ls : Array Slot), lv_has ls 2 [(0, .ref (ad g 0)), (1, .int v1)] → Wd g σ H → va_S (wA g) s.heap H locs → W p l e R s m args below meth c H locs 0 0 Q (F0 m 14 ls []) := by
    intro v1 σ h H locs ls hl hP hS
    unfold f_Be_number_J14 at h
    refine lv_iconst (v := 0) hx hb dBe_number_14 (by decide) ?_
    exact q_ri cx hr rfl hP hS hQ h dBe_number_15
  unfold f_Be_number at h
  refine lv_iload_n hx hb dBe_number_0 rfl (lv_at hl 1 rfl) ?_
  refine lv_sipush (v := (-999)) hx hb dBe_number_1 (by decide) ?_
  refine lv_icmp_lt (tgt := 14) hx hb dBe_number_4 (by decide) (fun hc => ?_) (fun hc => ?_)
  · replace h := if_t h hc
    exact J14 _ _ h _ _ _ (lv_sub hl [0, 1] rfl) hP hS
  · replace h := if_f h hc
    refine lv_iload_n hx hb dBe_number_7 rfl (lv_at hl 1 rfl) ?_
    refine lv_sipush (v := 999) hx hb dBe_number_8 (by decide) ?_
    refine lv_icmp_le (tgt := 16) hx hb dBe_number_11 (by decide) (fun hc => ?_) (fun hc => ?_)
    · replace h := if_t h hc
      refine lv_aload_n hx hb dBe_number_16 rfl (lv_at hl 0 rfl) ?_
      refine lv_iconst (v := 1) hx hb dBe_number_17 (by decide) ?_
      refine lv_iload_n hx hb dBe_number_18 rfl (lv_at hl 1 rfl) ?_
      obtain ⟨r3, σ2, h1, h⟩ := bn_some h
      refine q_cVi (rest := []) (As := [.int (1 : Int32), .int v1]) cx hP hS hRk (c_Be_fillHole l g hg h1) Y_Be_fillHole V_Be_fillHole t_174 (by decide) (by decide) (e_0 g _ _) rfl rfl hl.1 rfl (Nat.le_of_ble_eq_true rfl) dBe_number_19 (fun H locs hP hS => ?_)
      obtain ⟨b4, h⟩ := gd_some h
      exact q_ri cx hr (isB_n b4) hP hS hQ h dBe_number_22
    · replace h := if_f h hc
      exact J14 _ _ h _ _ _ (lv_sub hl [0, 1] rfl) hP hS
theorem dBe_isName_0 : decode cBe_isName 0 = .ok (.iload_n 0, 1) := by decide +kernel
theorem dBe_isName_1 : decode cBe_isName 1 = .ok (.ifCond .lt 13, 3) := by decide +kernel
theorem dBe_isName_4 : decode cBe_isName 4 = .ok (.iload_n 0, 1) := by decide +kernel
theorem dBe_isName_5 : decode cBe_isName 5 = .ok (.bipush 9, 2) := by decide +kernel
theorem dBe_isName_7 : decode cBe_isName 7 = .ok (.if_icmp .gt 7, 3) := by decide +kernel
theorem dBe_isName_10 : decode cBe_isName 10 = .ok (.iconst 1, 1) := by decide +kernel
theorem dBe_isName_11 : decode cBe_isName 11 = .ok (.goto 4, 3) := by decide +kernel
theorem dBe_isName_14 : decode cBe_isName 14 = .ok (.iconst 0, 1) := by decide +kernel
theorem dBe_isName_15 : decode cBe_isName 15 = .ok (.ireturn, 1) := by decide +kernel
def f_Be_isName_J15  (v0 : Int32) (u0 : Int32) (σ : Mem) : Option (Int32 × Mem) :=
  gd (isB u0) (some (u0, σ))
def f_Be_isName_J14  (v0 : Int32) (σ : Mem) : Option (Int32 × Mem) :=
  f_Be_isName_J15 v0 (0 : Int32) σ
def f_Be_isName  (v0 : Int32) (σ : Mem) : Option (Int32 × Mem) :=
  if v0 < 0 then (
  f_Be_isName_J14 v0 σ)
  else (
  if (9 : Int32) < v0 then (
  f_Be_isName_J14 v0 σ)
  else (
  f_Be_isName_J15 v0 (1 : Int32) σ))
set_option maxHeartbeats 4000000 in
set_option maxRecDepth 100000 in
theorem c_Be_isName (l : Launch) (g : Gw) (hg : wInj g) {v0 : Int32} {r0 : Int32} {σ σ0 : Mem} (h : f_Be_isName v0 σ = some (r0, σ0)) : KI l yBe_isName cBe_isName 1 (some .boolean) 0 g [.int v0] σ r0 σ0 := by
  refine q_met g hg (own := "TermBench") rfl rfl (Nat.le_of_ble_eq_true rfl) (fun p e s m args below meth c R Q cx hRk hr hQ H locs ls hP hS hl => ?_)
  have hx := cx.1
  have hb := cx.2.1
  have hown := cx.2.2.2.1
  have hts := cx.2.2.2.2.1
  have hl : lv_has ls 1 [(0, .int v0)] := hl
  have J15 : ∀ (v0 : Int32) (u0 : Int32) (σ : Mem), f_Be_isName_J15 v0 u0 σ = some (r0, σ0) → ∀ (H : Heap) (locs : List Loc) (ls : Array Slot), lv_has ls 1 [(0, .int v0)] → Wd g σ H → va_S (wA g) s.heap H locs → W p l e R s m args below meth c H locs 0 0 Q (F0 m 15 ls [.int u0]) := by
    intro v0 u0 σ h H locs ls hl hP hS
    unfold f_Be_isName_J15 at h
    obtain ⟨b1, h⟩ := gd_some h
    exact q_ri cx hr (isB_n b1) hP hS hQ h dBe_isName_15
  have J14 : ∀ (v0 : Int32) (σ : Mem), f_Be_isName_J14 v0 σ = some (r0, σ0) → ∀ (H : Heap) (locs : List Loc) (ls : Array Slot), lv_has ls 1 [(0, .int v0)] → Wd g σ H → va_S (wA g) s.heap H locs → W p l e R s m args below meth c H locs 0 0 Q (F0 m 14 ls []) := by
    intro v0 σ h H locs ls hl hP hS
    unfold f_Be_isName_J14 at h
    refine lv_iconst (v := 0) hx hb dBe_isName_14 (by decide) ?_
    exact J15 _ _ _ h _ _ _ (lv_sub hl [0] rfl) hP hS
  unfold f_Be_isName at h
  refine lv_iload_n hx hb dBe_isName_0 rfl (lv_at hl 0 rfl) ?_
  refine lv_if_lt (tgt := 14) hx hb dBe_isName_1 (by decide) (fun hc => ?_) (fun hc => ?_)
  · replace h := if_t h hc
    exact J14 _ _ h _ _ _ (lv_sub hl [0] rfl) hP hS
  · replace h := if_f h hc
    refine lv_iload_n hx hb dBe_isName_4 rfl (lv_at hl 0 rfl) ?_
    refine lv_bipush (v := 9) hx hb dBe_isName_5 (by decide) ?_
    refine lv_icmp_gt (tgt := 14) hx hb dBe_isName_7 (by decide) (fun hc => ?_) (fun hc => ?_)
    · replace h := if_t h hc
      exact J14 _ _ h _ _ _ (lv_sub hl [0] rfl) hP hS
    · replace h := if_f h hc
      refine lv_iconst (v := 1) hx hb dBe_isName_10 (by decide) ?_
      refine lv_goto (tgt := 15) hx hb dBe_isName_11 (by decide) ?_
      exact J15 _ _ _ h _ _ _ (lv_sub hl [0] rfl) hP hS
theorem dBe_name_0 : decode cBe_name 0 = .ok (.iload_n 1, 1) := by decide +kernel
theorem dBe_name_1 : decode cBe_name 1 = .ok (.invokestatic 41, 3) := by decide +kernel
theorem dBe_name_4 : decode cBe_name 4 = .ok (.ifCond .ne 5, 3) := by decide +kernel
theorem dBe_name_7 : decode cBe_name 7 = .ok (.iconst 0, 1) := by decide +kernel
theorem dBe_name_8 : decode cBe_name 8 = .ok (.ireturn, 1) := by decide +kernel
theorem dBe_name_9 : decode cBe_name 9 = .ok (.aload_n 0, 1) := by decide +kernel
theorem dBe_name_10 : decode cBe_name 10 = .ok (.iconst 2, 1) := by decide +kernel
theorem dBe_name_11 : decode cBe_name 11 = .ok (.iload_n 1, 1) := by decide +kernel
theorem dBe_name_12 : decode cBe_name 12 = .ok (.invokevirtual 37, 3) := by decide +kernel
theorem dBe_name_15 : decode cBe_name 15 = .ok (.ireturn, 1) := by decide +kernel
def f_Be_name  (v1 : Int32) (σ : Mem) : Option (Int32 × Mem) :=
  bn (f_Be_isName v1 σ) fun (r3 : Int32) (σ2 : Mem) =>
  if r3 = 0 then (
  some ((0 : Int32), σ2))
  else (
  bn (f_Be_fillHole (2 : Int32) v1 σ2) fun (r6 : Int32) (σ5 : Mem) =>
  gd (isB r6) (some (r6, σ5)))
set_option maxHeartbeats 4000000 in
set_option maxRecDepth 100000 in
theorem c_Be_name (l : Launch) (g : Gw) (hg : wInj g) {v1 : Int32} {r0 : Int32} {σ σ0 : Mem} (h : f_Be_name v1 σ = some (r0, σ0)) : KI l yBe_name cBe_name 2 (some .boolean) 4 g [.ref (ad g 0), .int v1] σ r0 σ0 := by
  refine q_met g hg (own := "TermBench") rfl rfl (Nat.le_of_ble_eq_true rfl) (fun p e s m args below meth c R Q cx hRk hr hQ H locs ls hP hS hl => ?_)
  have hx := cx.1
  have hb := cx.2.1
  have hown := cx.2.2.2.1
  have hts := cx.2.2.2.2.1
  have hl : lv_has ls 2 [(0, .ref (ad g 0)), (1, .int v1)] := hl
  unfold f_Be_name at h
  refine lv_iload_n hx hb dBe_name_0 rfl (lv_at hl 1 rfl) ?_
  obtain ⟨r3, σ2, h1, h⟩ := bn_some h
  refine q_cSi (rest := []) (As := [.int v1]) cx hP hS hRk (c_Be_isName l g hg h1) Y_Be_isName S_Be_isName t_213 (by decide) rfl hl.1 rfl (Nat.le_of_ble_eq_true rfl) dBe_name_1 (fun H locs hP hS => ?_)
  refine lv_if_ne (tgt := 9) hx hb dBe_name_4 (by decide) (fun hc => ?_) (fun hc => ?_)
  · replace h := if_f h hc
    refine lv_aload_n hx hb dBe_name_9 rfl (lv_at hl 0 rfl) ?_
    refine lv_iconst (v := 2) hx hb dBe_name_10 (by decide) ?_
    refine lv_iload_n hx hb dBe_name_11 rfl (lv_at hl 1 rfl) ?_
    obtain ⟨r6, σ5, h4, h⟩ := bn_some h
    refine q_cVi (rest := []) (As := [.int (2 : Int32), .int v1]) cx hP hS hRk (c_Be_fillHole l g hg h4) Y_Be_fillHole V_Be_fillHole t_174 (by decide) (by decide) (e_0 g _ _) rfl rfl hl.1 rfl (Nat.le_of_ble_eq_true rfl) dBe_name_12 (fun H locs hP hS => ?_)
    obtain ⟨b7, h⟩ := gd_some h
    exact q_ri cx hr (isB_n b7) hP hS hQ h dBe_name_15
  · replace h := if_t h hc
    refine lv_iconst (v := 0) hx hb dBe_name_7 (by decide) ?_
    exact q_ri cx hr rfl hP hS hQ h dBe_name_8
theorem dBe_joinHole_0 : decode cBe_joinHole 0 = .ok (.aload_n 0, 1) := by decide +kernel
theorem dBe_joinHole_1 : decode cBe_joinHole 1 = .ok (.getfield 10, 3) := by decide +kernel
theorem dBe_joinHole_4 : decode cBe_joinHole 4 = .ok (.invokevirtual 53, 3) := by decide +kernel
theorem dBe_joinHole_7 : decode cBe_joinHole 7 = .ok (.iconst 2, 1) := by decide +kernel
theorem dBe_joinHole_8 : decode cBe_joinHole 8 = .ok (.invokevirtual 150, 3) := by decide +kernel
theorem dBe_joinHole_11 : decode cBe_joinHole 11 = .ok (.ifCond .ne 5, 3) := by decide +kernel
theorem dBe_joinHole_14 : decode cBe_joinHole 14 = .ok (.iconst 0, 1) := by decide +kernel
theorem dBe_joinHole_15 : decode cBe_joinHole 15 = .ok (.ireturn, 1) := by decide +kernel
theorem dBe_joinHole_16 : decode cBe_joinHole 16 = .ok (.aload_n 0, 1) := by decide +kernel
theorem dBe_joinHole_17 : decode cBe_joinHole 17 = .ok (.getfield 10, 3) := by decide +kernel
theorem dBe_joinHole_20 : decode cBe_joinHole 20 = .ok (.invokevirtual 63, 3) := by decide +kernel
theorem dBe_joinHole_23 : decode cBe_joinHole 23 = .ok (.iload_n 1, 1) := by decide +kernel
theorem dBe_joinHole_24 : decode cBe_joinHole 24 = .ok (.iload_n 2, 1) := by decide +kernel
theorem dBe_joinHole_25 : decode cBe_joinHole 25 = .ok (.invokevirtual 153, 3) := by decide +kernel
theorem dBe_joinHole_28 : decode cBe_joinHole 28 = .ok (.iconst 1, 1) := by decide +kernel
theorem dBe_joinHole_29 : decode cBe_joinHole 29 = .ok (.ireturn, 1) := by decide +kernel
def f_Be_joinHole  (v1 : Int32) (v2 : Int32) (σ : Mem) : Option (Int32 × Mem) :=
  bn (f_Hi_present σ) fun (i3 : Nat) (σ2 : Mem) =>
  gd (decide (i3 < 17)) (
  bn (f_Pr_hasRoomAround i3 (2 : Int32) σ2) fun (r7 : Int32) (σ6 : Mem) =>
  if r7 = 0 then (
  some ((0 : Int32), σ6))
  else (
  bn (f_Hi_keep σ6) fun (i10 : Nat) (σ9 : Mem) =>
  gd (decide (i10 < 17)) (
  bn (f_Pr_join i10 v1 v2 σ9) fun (_ : Unit) (σ13 : Mem) =>
  some ((1 : Int32), σ13))))
set_option maxHeartbeats 4000000 in
set_option maxRecDepth 100000 in
theorem c_Be_joinHole (l : Launch) (g : Gw) (hg : wInj g) {v1 : Int32} {v2 : Int32} {r0 : Int32} {σ σ0 : Mem} (h : f_Be_joinHole v1 v2 σ = some (r0, σ0)) : KI l yBe_joinHole cBe_joinHole 3 (some .boolean) 4 g [.ref (ad g 0), .int v1, .int v2] σ r0 σ0 := by
  refine q_met g hg (own := "TermBench") rfl rfl (Nat.le_of_ble_eq_true rfl) (fun p e s m args below meth c R Q cx hRk hr hQ H locs ls hP hS hl => ?_)
  have hx := cx.1
  have hb := cx.2.1
  have hown := cx.2.2.2.1
  have hts := cx.2.2.2.2.1
  have hl : lv_has ls 3 [(0, .ref (ad g 0)), (1, .int v1), (2, .int v2)] := hl
  unfold f_Be_joinHole at h
  refine lv_aload_n hx hb dBe_joinHole_0 rfl (lv_at hl 0 rfl) ?_
  refine g_Be_history cx hP  t_157 dBe_joinHole_1 ?_
  obtain ⟨i3, σ2, h1, h⟩ := bn_some h
  obtain ⟨b4, h⟩ := gd_some h
  have hi3 : i3 < 17 := of_decide_eq_true b4
  refine q_cVr (rest := []) (As := []) cx hP hS hRk (c_Hi_present l g hg h1) Y_Hi_present V_Hi_present t_178 (by decide) (by decide) (e_1 g _ _) rfl rfl hl.1 rfl (Nat.le_of_ble_eq_true rfl) dBe_joinHole_4 (fun H locs hP hS => ?_)
  refine lv_iconst (v := 2) hx hb dBe_joinHole_7 (by decide) ?_
  obtain ⟨r7, σ6, h5, h⟩ := bn_some h
  refine q_cVi (rest := []) (As := [.int (2 : Int32)]) cx hP hS hRk (c_Pr_hasRoomAround l g hg hi3 h5) Y_Pr_hasRoomAround V_Pr_hasRoomAround t_224 (by decide) (l_cP hi3) (e_cP g hi3 _ _) rfl rfl hl.1 rfl (Nat.le_of_ble_eq_true rfl) dBe_joinHole_8 (fun H locs hP hS => ?_)
  refine lv_if_ne (tgt := 16) hx hb dBe_joinHole_11 (by decide) (fun hc => ?_) (fun hc => ?_)
  · replace h := if_f h hc
    refine lv_aload_n hx hb dBe_joinHole_16 rfl (lv_at hl 0 rfl) ?_
    refine g_Be_history cx hP  t_157 dBe_joinHole_17 ?_
    obtain ⟨i10, σ9, h8, h⟩ := bn_some h
    obtain ⟨b11, h⟩ := gd_some h
    have hi10 : i10 < 17 := of_decide_eq_true b11
    refine q_cVr (rest := []) (As := []) cx hP hS hRk (c_Hi_keep l g hg h8) Y_Hi_keep V_Hi_keep t_186 (by decide) (by decide) (e_1 g _ _) rfl rfl hl.1 rfl (Nat.le_of_ble_eq_true rfl) dBe_joinHole_20 (fun H locs hP hS => ?_)
    refine lv_iload_n hx hb dBe_joinHole_23 rfl (lv_at hl 1 rfl) ?_
    refine lv_iload_n hx hb dBe_joinHole_24 rfl (lv_at hl 2 rfl) ?_
    obtain ⟨rh12, σ13, h12, h⟩ := bn_some h
    refine q_cVv (rest := []) (As := [.int v1, .int v2]) cx hP hS hRk (c_Pr_join l g hg hi10 h12) Y_Pr_join V_Pr_join t_235 (by decide) (l_cP hi10) (e_cP g hi10 _ _) rfl rfl hl.1 rfl (Nat.le_of_ble_eq_true rfl) dBe_joinHole_25 (fun H locs hP hS => ?_)
    refine lv_iconst (v := 1) hx hb dBe_joinHole_28 (by decide) ?_
    exact q_ri cx hr rfl hP hS hQ h dBe_joinHole_29
  · replace h := if_t h hc
    refine lv_iconst (v := 0) hx hb dBe_joinHole_14 (by decide) ?_
    exact q_ri cx hr rfl hP hS hQ h dBe_joinHole_15
theorem dBe_sum_0 : decode cBe_sum 0 = .ok (.aload_n 0, 1) := by decide +kernel
theorem dBe_sum_1 : decode cBe_sum 1 = .ok (.iconst 3, 1) := by decide +kernel
theorem dBe_sum_2 : decode cBe_sum 2 = .ok (.iload_n 1, 1) := by decide +kernel
theorem dBe_sum_3 : decode cBe_sum 3 = .ok (.invokevirtual 45, 3) := by decide +kernel
theorem dBe_sum_6 : decode cBe_sum 6 = .ok (.ireturn, 1) := by decide +kernel
def f_Be_sum  (v1 : Int32) (σ : Mem) : Option (Int32 × Mem) :=
  bn (f_Be_joinHole (3 : Int32) v1 σ) fun (r3 : Int32) (σ2 : Mem) =>
  gd (isB r3) (some (r3, σ2))
set_option maxHeartbeats 4000000 in
set_option maxRecDepth 100000 in
theorem c_Be_sum (l : Launch) (g : Gw) (hg : wInj g) {v1 : Int32} {r0 : Int32} {σ σ0 : Mem} (h : f_Be_sum v1 σ = some (r0, σ0)) : KI l yBe_sum cBe_sum 2 (some .boolean) 5 g [.ref (ad g 0), .int v1] σ r0 σ0 := by
  refine q_met g hg (own := "TermBench") rfl rfl (Nat.le_of_ble_eq_true rfl) (fun p e s m args below meth c R Q cx hRk hr hQ H locs ls hP hS hl => ?_)
  have hx := cx.1
  have hb := cx.2.1
  have hown := cx.2.2.2.1
  have hts := cx.2.2.2.2.1
  have hl : lv_has ls 2 [(0, .ref (ad g 0)), (1, .int v1)] := hl
  unfold f_Be_sum at h
  refine lv_aload_n hx hb dBe_sum_0 rfl (lv_at hl 0 rfl) ?_
  refine lv_iconst (v := 3) hx hb dBe_sum_1 (by decide) ?_
  refine lv_iload_n hx hb dBe_sum_2 rfl (lv_at hl 1 rfl) ?_
  obtain ⟨r3, σ2, h1, h⟩ := bn_some h
  refine q_cVi (rest := []) (As := [.int (3 : Int32), .int v1]) cx hP hS hRk (c_Be_joinHole l g hg h1) Y_Be_joinHole V_Be_joinHole t_220 (by decide) (by decide) (e_0 g _ _) rfl rfl hl.1 rfl (Nat.le_of_ble_eq_true rfl) dBe_sum_3 (fun H locs hP hS => ?_)
  obtain ⟨b4, h⟩ := gd_some h
  exact q_ri cx hr (isB_n b4) hP hS hQ h dBe_sum_6
theorem dBe_call_0 : decode cBe_call 0 = .ok (.aload_n 0, 1) := by decide +kernel
theorem dBe_call_1 : decode cBe_call 1 = .ok (.iconst 4, 1) := by decide +kernel
theorem dBe_call_2 : decode cBe_call 2 = .ok (.iload_n 1, 1) := by decide +kernel
theorem dBe_call_3 : decode cBe_call 3 = .ok (.invokevirtual 45, 3) := by decide +kernel
theorem dBe_call_6 : decode cBe_call 6 = .ok (.ireturn, 1) := by decide +kernel
def f_Be_call  (v1 : Int32) (σ : Mem) : Option (Int32 × Mem) :=
  bn (f_Be_joinHole (4 : Int32) v1 σ) fun (r3 : Int32) (σ2 : Mem) =>
  gd (isB r3) (some (r3, σ2))
set_option maxHeartbeats 4000000 in
set_option maxRecDepth 100000 in
theorem c_Be_call (l : Launch) (g : Gw) (hg : wInj g) {v1 : Int32} {r0 : Int32} {σ σ0 : Mem} (h : f_Be_call v1 σ = some (r0, σ0)) : KI l yBe_call cBe_call 2 (some .boolean) 5 g [.ref (ad g 0), .int v1] σ r0 σ0 := by
  refine q_met g hg (own := "TermBench") rfl rfl (Nat.le_of_ble_eq_true rfl) (fun p e s m args below meth c R Q cx hRk hr hQ H locs ls hP hS hl => ?_)
  have hx := cx.1
  have hb := cx.2.1
  have hown := cx.2.2.2.1
  have hts := cx.2.2.2.2.1
  have hl : lv_has ls 2 [(0, .ref (ad g 0)), (1, .int v1)] := hl
  unfold f_Be_call at h
  refine lv_aload_n hx hb dBe_call_0 rfl (lv_at hl 0 rfl) ?_
  refine lv_iconst (v := 4) hx hb dBe_call_1 (by decide) ?_
  refine lv_iload_n hx hb dBe_call_2 rfl (lv_at hl 1 rfl) ?_
  obtain ⟨r3, σ2, h1, h⟩ := bn_some h
  refine q_cVi (rest := []) (As := [.int (4 : Int32), .int v1]) cx hP hS hRk (c_Be_joinHole l g hg h1) Y_Be_joinHole V_Be_joinHole t_220 (by decide) (by decide) (e_0 g _ _) rfl rfl hl.1 rfl (Nat.le_of_ble_eq_true rfl) dBe_call_3 (fun H locs hP hS => ?_)
  obtain ⟨b4, h⟩ := gd_some h
  exact q_ri cx hr (isB_n b4) hP hS hQ h dBe_call_6
theorem dBe_wrapTyped_0 : decode cBe_wrapTyped 0 = .ok (.lload_n 3, 1) := by decide +kernel
theorem dBe_wrapTyped_1 : decode cBe_wrapTyped 1 = .ok (.invokestatic 157, 3) := by decide +kernel
theorem dBe_wrapTyped_4 : decode cBe_wrapTyped 4 = .ok (.ifCond .eq 17, 3) := by decide +kernel
theorem dBe_wrapTyped_7 : decode cBe_wrapTyped 7 = .ok (.aload_n 0, 1) := by decide +kernel
theorem dBe_wrapTyped_8 : decode cBe_wrapTyped 8 = .ok (.getfield 10, 3) := by decide +kernel
theorem dBe_wrapTyped_11 : decode cBe_wrapTyped 11 = .ok (.invokevirtual 53, 3) := by decide +kernel
theorem dBe_wrapTyped_14 : decode cBe_wrapTyped 14 = .ok (.iconst 1, 1) := by decide +kernel
theorem dBe_wrapTyped_15 : decode cBe_wrapTyped 15 = .ok (.invokevirtual 150, 3) := by decide +kernel
theorem dBe_wrapTyped_18 : decode cBe_wrapTyped 18 = .ok (.ifCond .ne 5, 3) := by decide +kernel
theorem dBe_wrapTyped_21 : decode cBe_wrapTyped 21 = .ok (.iconst 0, 1) := by decide +kernel
theorem dBe_wrapTyped_22 : decode cBe_wrapTyped 22 = .ok (.ireturn, 1) := by decide +kernel
theorem dBe_wrapTyped_23 : decode cBe_wrapTyped 23 = .ok (.aload_n 0, 1) := by decide +kernel
theorem dBe_wrapTyped_24 : decode cBe_wrapTyped 24 = .ok (.getfield 10, 3) := by decide +kernel
theorem dBe_wrapTyped_27 : decode cBe_wrapTyped 27 = .ok (.invokevirtual 63, 3) := by decide +kernel
theorem dBe_wrapTyped_30 : decode cBe_wrapTyped 30 = .ok (.iload_n 1, 1) := by decide +kernel
theorem dBe_wrapTyped_31 : decode cBe_wrapTyped 31 = .ok (.iload_n 2, 1) := by decide +kernel
theorem dBe_wrapTyped_32 : decode cBe_wrapTyped 32 = .ok (.lload_n 3, 1) := by decide +kernel
theorem dBe_wrapTyped_33 : decode cBe_wrapTyped 33 = .ok (.invokevirtual 163, 3) := by decide +kernel
theorem dBe_wrapTyped_36 : decode cBe_wrapTyped 36 = .ok (.iconst 1, 1) := by decide +kernel
theorem dBe_wrapTyped_37 : decode cBe_wrapTyped 37 = .ok (.ireturn, 1) := by decide +kernel
def f_Be_wrapTyped_J21  (v1 : Int32) (v2 : Int32) (v3 : Int64) (σ : Mem) : Option (Int32 × Mem) :=
  some ((0 : Int32), σ)
def f_Be_wrapTyped  (v1 : Int32) (v2 : Int32) (v3 : Int64) (σ : Mem) : Option (Int32 × Mem) :=
  bn (f_Ty_isType v3 σ) fun (r3 : Int32) (σ2 : Mem) =>
  if r3 = 0 then (
  f_Be_wrapTyped_J21 v1 v2 v3 σ2)
  else (
  bn (f_Hi_present σ2) fun (i6 : Nat) (σ5 : Mem) =>
  gd (decide (i6 < 17)) (
  bn (f_Pr_hasRoomAround i6 (1 : Int32) σ5) fun (r10 : Int32) (σ9 : Mem) =>
  if r10 = 0 then (
  f_Be_wrapTyped_J21 v1 v2 v3 σ9)
  else (
  bn (f_Hi_keep σ9) fun (i13 : Nat) (σ12 : Mem) =>
  gd (decide (i13 < 17)) (
  bn (f_Pr_wrap i13 v1 v2 v3 σ12) fun (_ : Unit) (σ16 : Mem) =>
  some ((1 : Int32), σ16)))))
set_option maxHeartbeats 4000000 in
set_option maxRecDepth 100000 in
theorem c_Be_wrapTyped (l : Launch) (g : Gw) (hg : wInj g) {v1 : Int32} {v2 : Int32} {v3 : Int64} {r0 : Int32} {σ σ0 : Mem} (h : f_Be_wrapTyped v1 v2 v3 σ = some (r0, σ0)) : KI l yBe_wrapTyped cBe_wrapTyped 5 (some .boolean) 3 g [.ref (ad g 0), .int v1, .int v2, .long v3] σ r0 σ0 := by
  refine q_met g hg (own := "TermBench") rfl rfl (Nat.le_of_ble_eq_true rfl) (fun p e s m args below meth c R Q cx hRk hr hQ H locs ls hP hS hl => ?_)
  have hx := cx.1
  have hb := cx.2.1
  have hown := cx.2.2.2.1
  have hts := cx.2.2.2.2.1
  have hl : lv_has ls 5 [(0, .ref (ad g 0)), (1, .int v1), (2, .int v2), (3, .long v3)] := hl
  have J21 : ∀ (v1 : Int32) (v2 : Int32) (v3 : Int64) (σ : Mem), f_Be_wrapTyped_J21 v1 v2 v3 σ = some (r0, σ0) → ∀ (H : Heap) (locs : List Loc) (ls : Array Slot), lv_has ls 5 [(0, .ref (ad g 0)), (1, .int v1), (2, .int v2), (3, .long v3)] → Wd g σ H → va_S (wA g) s.heap H locs → W p l e R s m args below meth c H locs 0 0 Q (F0 m 21 ls []) := by
    intro v1 v2 v3 σ h H locs ls hl hP hS
    unfold f_Be_wrapTyped_J21 at h
    refine lv_iconst (v := 0) hx hb dBe_wrapTyped_21 (by decide) ?_
    exact q_ri cx hr rfl hP hS hQ h dBe_wrapTyped_22
  unfold f_Be_wrapTyped at h
  refine lv_lload_n hx hb dBe_wrapTyped_0 rfl (lv_at hl 3 rfl) ?_
  obtain ⟨r3, σ2, h1, h⟩ := bn_some h
  refine q_cSi (rest := []) (As := [.long v3]) cx hP hS hRk (c_Ty_isType l g hg h1) Y_Ty_isType S_Ty_isType t_263 (by decide) rfl hl.1 rfl (Nat.le_of_ble_eq_true rfl) dBe_wrapTyped_1 (fun H locs hP hS => ?_)
  refine lv_if_eq (tgt := 21) hx hb dBe_wrapTyped_4 (by decide) (fun hc => ?_) (fun hc => ?_)
  · replace h := if_t h hc
    exact J21 _ _ _ _ h _ _ _ (lv_sub hl [0, 1, 2, 3] rfl) hP hS
  · replace h := if_f h hc
    refine lv_aload_n hx hb dBe_wrapTyped_7 rfl (lv_at hl 0 rfl) ?_
    refine g_Be_history cx hP  t_157 dBe_wrapTyped_8 ?_
    obtain ⟨i6, σ5, h4, h⟩ := bn_some h
    obtain ⟨b7, h⟩ := gd_some h
    have hi6 : i6 < 17 := of_decide_eq_true b7
    refine q_cVr (rest := []) (As := []) cx hP hS hRk (c_Hi_present l g hg h4) Y_Hi_present V_Hi_present t_178 (by decide) (by decide) (e_1 g _ _) rfl rfl hl.1 rfl (Nat.le_of_ble_eq_true rfl) dBe_wrapTyped_11 (fun H locs hP hS => ?_)
    refine lv_iconst (v := 1) hx hb dBe_wrapTyped_14 (by decide) ?_
    obtain ⟨r10, σ9, h8, h⟩ := bn_some h
    refine q_cVi (rest := []) (As := [.int (1 : Int32)]) cx hP hS hRk (c_Pr_hasRoomAround l g hg hi6 h8) Y_Pr_hasRoomAround V_Pr_hasRoomAround t_224 (by decide) (l_cP hi6) (e_cP g hi6 _ _) rfl rfl hl.1 rfl (Nat.le_of_ble_eq_true rfl) dBe_wrapTyped_15 (fun H locs hP hS => ?_)
    refine lv_if_ne (tgt := 23) hx hb dBe_wrapTyped_18 (by decide) (fun hc => ?_) (fun hc => ?_)
    · replace h := if_f h hc
      refine lv_aload_n hx hb dBe_wrapTyped_23 rfl (lv_at hl 0 rfl) ?_
      refine g_Be_history cx hP  t_157 dBe_wrapTyped_24 ?_
      obtain ⟨i13, σ12, h11, h⟩ := bn_some h
      obtain ⟨b14, h⟩ := gd_some h
      have hi13 : i13 < 17 := of_decide_eq_true b14
      refine q_cVr (rest := []) (As := []) cx hP hS hRk (c_Hi_keep l g hg h11) Y_Hi_keep V_Hi_keep t_186 (by decide) (by decide) (e_1 g _ _) rfl rfl hl.1 rfl (Nat.le_of_ble_eq_true rfl) dBe_wrapTyped_27 (fun H locs hP hS => ?_)
      refine lv_iload_n hx hb dBe_wrapTyped_30 rfl (lv_at hl 1 rfl) ?_
      refine lv_iload_n hx hb dBe_wrapTyped_31 rfl (lv_at hl 2 rfl) ?_
      refine lv_lload_n hx hb dBe_wrapTyped_32 rfl (lv_at hl 3 rfl) ?_
      obtain ⟨rh15, σ16, h15, h⟩ := bn_some h
      refine q_cVv (rest := []) (As := [.int v1, .int v2, .long v3]) cx hP hS hRk (c_Pr_wrap l g hg hi13 h15) Y_Pr_wrap V_Pr_wrap t_269 (by decide) (l_cP hi13) (e_cP g hi13 _ _) rfl rfl hl.1 rfl (Nat.le_of_ble_eq_true rfl) dBe_wrapTyped_33 (fun H locs hP hS => ?_)
      refine lv_iconst (v := 1) hx hb dBe_wrapTyped_36 (by decide) ?_
      exact q_ri cx hr rfl hP hS hQ h dBe_wrapTyped_37
    · replace h := if_t h hc
      exact J21 _ _ _ _ h _ _ _ (lv_sub hl [0, 1, 2, 3] rfl) hP hS
theorem dBe_function_0 : decode cBe_function 0 = .ok (.iload_n 1, 1) := by decide +kernel
theorem dBe_function_1 : decode cBe_function 1 = .ok (.invokestatic 41, 3) := by decide +kernel
theorem dBe_function_4 : decode cBe_function 4 = .ok (.ifCond .ne 5, 3) := by decide +kernel
theorem dBe_function_7 : decode cBe_function 7 = .ok (.iconst 0, 1) := by decide +kernel
theorem dBe_function_8 : decode cBe_function 8 = .ok (.ireturn, 1) := by decide +kernel
theorem dBe_function_9 : decode cBe_function 9 = .ok (.aload_n 0, 1) := by decide +kernel
theorem dBe_function_10 : decode cBe_function 10 = .ok (.iconst 5, 1) := by decide +kernel
theorem dBe_function_11 : decode cBe_function 11 = .ok (.iload_n 1, 1) := by decide +kernel
theorem dBe_function_12 : decode cBe_function 12 = .ok (.lload_n 2, 1) := by decide +kernel
theorem dBe_function_13 : decode cBe_function 13 = .ok (.invokevirtual 49, 3) := by decide +kernel
theorem dBe_function_16 : decode cBe_function 16 = .ok (.ireturn, 1) := by decide +kernel
def f_Be_function  (v1 : Int32) (v2 : Int64) (σ : Mem) : Option (Int32 × Mem) :=
  bn (f_Be_isName v1 σ) fun (r3 : Int32) (σ2 : Mem) =>
  if r3 = 0 then (
  some ((0 : Int32), σ2))
  else (
  bn (f_Be_wrapTyped (5 : Int32) v1 v2 σ2) fun (r6 : Int32) (σ5 : Mem) =>
  gd (isB r6) (some (r6, σ5)))
set_option maxHeartbeats 4000000 in
set_option maxRecDepth 100000 in
theorem c_Be_function (l : Launch) (g : Gw) (hg : wInj g) {v1 : Int32} {v2 : Int64} {r0 : Int32} {σ σ0 : Mem} (h : f_Be_function v1 v2 σ = some (r0, σ0)) : KI l yBe_function cBe_function 4 (some .boolean) 4 g [.ref (ad g 0), .int v1, .long v2] σ r0 σ0 := by
  refine q_met g hg (own := "TermBench") rfl rfl (Nat.le_of_ble_eq_true rfl) (fun p e s m args below meth c R Q cx hRk hr hQ H locs ls hP hS hl => ?_)
  have hx := cx.1
  have hb := cx.2.1
  have hown := cx.2.2.2.1
  have hts := cx.2.2.2.2.1
  have hl : lv_has ls 4 [(0, .ref (ad g 0)), (1, .int v1), (2, .long v2)] := hl
  unfold f_Be_function at h
  refine lv_iload_n hx hb dBe_function_0 rfl (lv_at hl 1 rfl) ?_
  obtain ⟨r3, σ2, h1, h⟩ := bn_some h
  refine q_cSi (rest := []) (As := [.int v1]) cx hP hS hRk (c_Be_isName l g hg h1) Y_Be_isName S_Be_isName t_213 (by decide) rfl hl.1 rfl (Nat.le_of_ble_eq_true rfl) dBe_function_1 (fun H locs hP hS => ?_)
  refine lv_if_ne (tgt := 9) hx hb dBe_function_4 (by decide) (fun hc => ?_) (fun hc => ?_)
  · replace h := if_f h hc
    refine lv_aload_n hx hb dBe_function_9 rfl (lv_at hl 0 rfl) ?_
    refine lv_iconst (v := 5) hx hb dBe_function_10 (by decide) ?_
    refine lv_iload_n hx hb dBe_function_11 rfl (lv_at hl 1 rfl) ?_
    refine lv_lload_n hx hb dBe_function_12 rfl (lv_at hl 2 rfl) ?_
    obtain ⟨r6, σ5, h4, h⟩ := bn_some h
    refine q_cVi (rest := []) (As := [.int (5 : Int32), .int v1, .long v2]) cx hP hS hRk (c_Be_wrapTyped l g hg h4) Y_Be_wrapTyped V_Be_wrapTyped t_259 (by decide) (by decide) (e_0 g _ _) rfl rfl hl.1 rfl (Nat.le_of_ble_eq_true rfl) dBe_function_13 (fun H locs hP hS => ?_)
    obtain ⟨b7, h⟩ := gd_some h
    exact q_ri cx hr (isB_n b7) hP hS hQ h dBe_function_16
  · replace h := if_t h hc
    refine lv_iconst (v := 0) hx hb dBe_function_7 (by decide) ?_
    exact q_ri cx hr rfl hP hS hQ h dBe_function_8
theorem dBe_claim_0 : decode cBe_claim 0 = .ok (.aload_n 0, 1) := by decide +kernel
theorem dBe_claim_1 : decode cBe_claim 1 = .ok (.bipush 6, 2) := by decide +kernel
theorem dBe_claim_3 : decode cBe_claim 3 = .ok (.iconst 0, 1) := by decide +kernel
theorem dBe_claim_4 : decode cBe_claim 4 = .ok (.lload_n 1, 1) := by decide +kernel
theorem dBe_claim_5 : decode cBe_claim 5 = .ok (.invokevirtual 49, 3) := by decide +kernel
theorem dBe_claim_8 : decode cBe_claim 8 = .ok (.ireturn, 1) := by decide +kernel
def f_Be_claim  (v1 : Int64) (σ : Mem) : Option (Int32 × Mem) :=
  bn (f_Be_wrapTyped (6 : Int32) (0 : Int32) v1 σ) fun (r3 : Int32) (σ2 : Mem) =>
  gd (isB r3) (some (r3, σ2))
set_option maxHeartbeats 4000000 in
set_option maxRecDepth 100000 in
theorem c_Be_claim (l : Launch) (g : Gw) (hg : wInj g) {v1 : Int64} {r0 : Int32} {σ σ0 : Mem} (h : f_Be_claim v1 σ = some (r0, σ0)) : KI l yBe_claim cBe_claim 3 (some .boolean) 4 g [.ref (ad g 0), .long v1] σ r0 σ0 := by
  refine q_met g hg (own := "TermBench") rfl rfl (Nat.le_of_ble_eq_true rfl) (fun p e s m args below meth c R Q cx hRk hr hQ H locs ls hP hS hl => ?_)
  have hx := cx.1
  have hb := cx.2.1
  have hown := cx.2.2.2.1
  have hts := cx.2.2.2.2.1
  have hl : lv_has ls 3 [(0, .ref (ad g 0)), (1, .long v1)] := hl
  unfold f_Be_claim at h
  refine lv_aload_n hx hb dBe_claim_0 rfl (lv_at hl 0 rfl) ?_
  refine lv_bipush (v := 6) hx hb dBe_claim_1 (by decide) ?_
  refine lv_iconst (v := 0) hx hb dBe_claim_3 (by decide) ?_
  refine lv_lload_n hx hb dBe_claim_4 rfl (lv_at hl 1 rfl) ?_
  obtain ⟨r3, σ2, h1, h⟩ := bn_some h
  refine q_cVi (rest := []) (As := [.int (6 : Int32), .int (0 : Int32), .long v1]) cx hP hS hRk (c_Be_wrapTyped l g hg h1) Y_Be_wrapTyped V_Be_wrapTyped t_259 (by decide) (by decide) (e_0 g _ _) rfl rfl hl.1 rfl (Nat.le_of_ble_eq_true rfl) dBe_claim_5 (fun H locs hP hS => ?_)
  obtain ⟨b4, h⟩ := gd_some h
  exact q_ri cx hr (isB_n b4) hP hS hQ h dBe_claim_8
theorem dBe_remove_0 : decode cBe_remove 0 = .ok (.aload_n 0, 1) := by decide +kernel
theorem dBe_remove_1 : decode cBe_remove 1 = .ok (.getfield 10, 3) := by decide +kernel
theorem dBe_remove_4 : decode cBe_remove 4 = .ok (.invokevirtual 53, 3) := by decide +kernel
theorem dBe_remove_7 : decode cBe_remove 7 = .ok (.invokevirtual 57, 3) := by decide +kernel
theorem dBe_remove_10 : decode cBe_remove 10 = .ok (.ifCond .eq 5, 3) := by decide +kernel
theorem dBe_remove_13 : decode cBe_remove 13 = .ok (.iconst 0, 1) := by decide +kernel
theorem dBe_remove_14 : decode cBe_remove 14 = .ok (.ireturn, 1) := by decide +kernel
theorem dBe_remove_15 : decode cBe_remove 15 = .ok (.aload_n 0, 1) := by decide +kernel
theorem dBe_remove_16 : decode cBe_remove 16 = .ok (.getfield 10, 3) := by decide +kernel
theorem dBe_remove_19 : decode cBe_remove 19 = .ok (.invokevirtual 63, 3) := by decide +kernel
theorem dBe_remove_22 : decode cBe_remove 22 = .ok (.invokevirtual 66, 3) := by decide +kernel
theorem dBe_remove_25 : decode cBe_remove 25 = .ok (.iconst 1, 1) := by decide +kernel
theorem dBe_remove_26 : decode cBe_remove 26 = .ok (.ireturn, 1) := by decide +kernel
def f_Be_remove   (σ : Mem) : Option (Int32 × Mem) :=
  bn (f_Hi_present σ) fun (i3 : Nat) (σ2 : Mem) =>
  gd (decide (i3 < 17)) (
  bn (f_Pr_isOnHole i3 σ2) fun (r7 : Int32) (σ6 : Mem) =>
  if r7 = 0 then (
  bn (f_Hi_keep σ6) fun (i10 : Nat) (σ9 : Mem) =>
  gd (decide (i10 < 17)) (
  bn (f_Pr_empty i10 σ9) fun (_ : Unit) (σ13 : Mem) =>
  some ((1 : Int32), σ13)))
  else (
  some ((0 : Int32), σ6)))
set_option maxHeartbeats 4000000 in
set_option maxRecDepth 100000 in
theorem c_Be_remove (l : Launch) (g : Gw) (hg : wInj g) {r0 : Int32} {σ σ0 : Mem} (h : f_Be_remove σ = some (r0, σ0)) : KI l yBe_remove cBe_remove 1 (some .boolean) 3 g [.ref (ad g 0)] σ r0 σ0 := by
  refine q_met g hg (own := "TermBench") rfl rfl (Nat.le_of_ble_eq_true rfl) (fun p e s m args below meth c R Q cx hRk hr hQ H locs ls hP hS hl => ?_)
  have hx := cx.1
  have hb := cx.2.1
  have hown := cx.2.2.2.1
  have hts := cx.2.2.2.2.1
  have hl : lv_has ls 1 [(0, .ref (ad g 0))] := hl
  unfold f_Be_remove at h
  refine lv_aload_n hx hb dBe_remove_0 rfl (lv_at hl 0 rfl) ?_
  refine g_Be_history cx hP  t_157 dBe_remove_1 ?_
  obtain ⟨i3, σ2, h1, h⟩ := bn_some h
  obtain ⟨b4, h⟩ := gd_some h
  have hi3 : i3 < 17 := of_decide_eq_true b4
  refine q_cVr (rest := []) (As := []) cx hP hS hRk (c_Hi_present l g hg h1) Y_Hi_present V_Hi_present t_178 (by decide) (by decide) (e_1 g _ _) rfl rfl hl.1 rfl (Nat.le_of_ble_eq_true rfl) dBe_remove_4 (fun H locs hP hS => ?_)
  obtain ⟨r7, σ6, h5, h⟩ := bn_some h
  refine q_cVi (rest := []) (As := []) cx hP hS hRk (c_Pr_isOnHole l g hg hi3 h5) Y_Pr_isOnHole V_Pr_isOnHole t_182 (by decide) (l_cP hi3) (e_cP g hi3 _ _) rfl rfl hl.1 rfl (Nat.le_of_ble_eq_true rfl) dBe_remove_7 (fun H locs hP hS => ?_)
  refine lv_if_eq (tgt := 15) hx hb dBe_remove_10 (by decide) (fun hc => ?_) (fun hc => ?_)
  · replace h := if_t h hc
    refine lv_aload_n hx hb dBe_remove_15 rfl (lv_at hl 0 rfl) ?_
    refine g_Be_history cx hP  t_157 dBe_remove_16 ?_
    obtain ⟨i10, σ9, h8, h⟩ := bn_some h
    obtain ⟨b11, h⟩ := gd_some h
    have hi10 : i10 < 17 := of_decide_eq_true b11
    refine q_cVr (rest := []) (As := []) cx hP hS hRk (c_Hi_keep l g hg h8) Y_Hi_keep V_Hi_keep t_186 (by decide) (by decide) (e_1 g _ _) rfl rfl hl.1 rfl (Nat.le_of_ble_eq_true rfl) dBe_remove_19 (fun H locs hP hS => ?_)
    obtain ⟨rh12, σ13, h12, h⟩ := bn_some h
    refine q_cVv (rest := []) (As := []) cx hP hS hRk (c_Pr_empty l g hg hi10 h12) Y_Pr_empty V_Pr_empty t_278 (by decide) (l_cP hi10) (e_cP g hi10 _ _) rfl rfl hl.1 rfl (Nat.le_of_ble_eq_true rfl) dBe_remove_22 (fun H locs hP hS => ?_)
    refine lv_iconst (v := 1) hx hb dBe_remove_25 (by decide) ?_
    exact q_ri cx hr rfl hP hS hQ h dBe_remove_26
  · replace h := if_f h hc
    refine lv_iconst (v := 0) hx hb dBe_remove_13 (by decide) ?_
    exact q_ri cx hr rfl hP hS hQ h dBe_remove_14
theorem dBe_lift_0 : decode cBe_lift 0 = .ok (.aload_n 0, 1) := by decide +kernel
theorem dBe_lift_1 : decode cBe_lift 1 = .ok (.getfield 10, 3) := by decide +kernel
theorem dBe_lift_4 : decode cBe_lift 4 = .ok (.invokevirtual 53, 3) := by decide +kernel
theorem dBe_lift_7 : decode cBe_lift 7 = .ok (.getfield 69, 3) := by decide +kernel
theorem dBe_lift_10 : decode cBe_lift 10 = .ok (.ifCond .ne 5, 3) := by decide +kernel
theorem dBe_lift_13 : decode cBe_lift 13 = .ok (.iconst 0, 1) := by decide +kernel
theorem dBe_lift_14 : decode cBe_lift 14 = .ok (.ireturn, 1) := by decide +kernel
theorem dBe_lift_15 : decode cBe_lift 15 = .ok (.aload_n 0, 1) := by decide +kernel
theorem dBe_lift_16 : decode cBe_lift 16 = .ok (.getfield 10, 3) := by decide +kernel
theorem dBe_lift_19 : decode cBe_lift 19 = .ok (.invokevirtual 63, 3) := by decide +kernel
theorem dBe_lift_22 : decode cBe_lift 22 = .ok (.invokevirtual 73, 3) := by decide +kernel
theorem dBe_lift_25 : decode cBe_lift 25 = .ok (.iconst 1, 1) := by decide +kernel
theorem dBe_lift_26 : decode cBe_lift 26 = .ok (.ireturn, 1) := by decide +kernel
def f_Be_lift   (σ : Mem) : Option (Int32 × Mem) :=
  bn (f_Hi_present σ) fun (i3 : Nat) (σ2 : Mem) =>
  gd (decide (i3 < 17)) (
  if (σ2.1 (cP i3) 5) = 0 then (
  some ((0 : Int32), σ2))
  else (
  bn (f_Hi_keep σ2) fun (i7 : Nat) (σ6 : Mem) =>
  gd (decide (i7 < 17)) (
  bn (f_Pr_raise i7 σ6) fun (_ : Unit) (σ10 : Mem) =>
  some ((1 : Int32), σ10))))
set_option maxHeartbeats 4000000 in
set_option maxRecDepth 100000 in
theorem c_Be_lift (l : Launch) (g : Gw) (hg : wInj g) {r0 : Int32} {σ σ0 : Mem} (h : f_Be_lift σ = some (r0, σ0)) : KI l yBe_lift cBe_lift 1 (some .boolean) 3 g [.ref (ad g 0)] σ r0 σ0 := by
  refine q_met g hg (own := "TermBench") rfl rfl (Nat.le_of_ble_eq_true rfl) (fun p e s m args below meth c R Q cx hRk hr hQ H locs ls hP hS hl => ?_)
  have hx := cx.1
  have hb := cx.2.1
  have hown := cx.2.2.2.1
  have hts := cx.2.2.2.2.1
  have hl : lv_has ls 1 [(0, .ref (ad g 0))] := hl
  unfold f_Be_lift at h
  refine lv_aload_n hx hb dBe_lift_0 rfl (lv_at hl 0 rfl) ?_
  refine g_Be_history cx hP  t_157 dBe_lift_1 ?_
  obtain ⟨i3, σ2, h1, h⟩ := bn_some h
  obtain ⟨b4, h⟩ := gd_some h
  have hi3 : i3 < 17 := of_decide_eq_true b4
  refine q_cVr (rest := []) (As := []) cx hP hS hRk (c_Hi_present l g hg h1) Y_Hi_present V_Hi_present t_178 (by decide) (by decide) (e_1 g _ _) rfl rfl hl.1 rfl (Nat.le_of_ble_eq_true rfl) dBe_lift_4 (fun H locs hP hS => ?_)
  refine g_Pr_cursor cx hP hi3  t_50 dBe_lift_7 ?_
  refine lv_if_ne (tgt := 15) hx hb dBe_lift_10 (by decide) (fun hc => ?_) (fun hc => ?_)
  · replace h := if_f h hc
    refine lv_aload_n hx hb dBe_lift_15 rfl (lv_at hl 0 rfl) ?_
    refine g_Be_history cx hP  t_157 dBe_lift_16 ?_
    obtain ⟨i7, σ6, h5, h⟩ := bn_some h
    obtain ⟨b8, h⟩ := gd_some h
    have hi7 : i7 < 17 := of_decide_eq_true b8
    refine q_cVr (rest := []) (As := []) cx hP hS hRk (c_Hi_keep l g hg h5) Y_Hi_keep V_Hi_keep t_186 (by decide) (by decide) (e_1 g _ _) rfl rfl hl.1 rfl (Nat.le_of_ble_eq_true rfl) dBe_lift_19 (fun H locs hP hS => ?_)
    obtain ⟨rh9, σ10, h9, h⟩ := bn_some h
    refine q_cVv (rest := []) (As := []) cx hP hS hRk (c_Pr_raise l g hg hi7 h9) Y_Pr_raise V_Pr_raise t_286 (by decide) (l_cP hi7) (e_cP g hi7 _ _) rfl rfl hl.1 rfl (Nat.le_of_ble_eq_true rfl) dBe_lift_22 (fun H locs hP hS => ?_)
    refine lv_iconst (v := 1) hx hb dBe_lift_25 (by decide) ?_
    exact q_ri cx hr rfl hP hS hQ h dBe_lift_26
  · replace h := if_t h hc
    refine lv_iconst (v := 0) hx hb dBe_lift_13 (by decide) ?_
    exact q_ri cx hr rfl hP hS hQ h dBe_lift_14
theorem dBe_undo_0 : decode cBe_undo 0 = .ok (.aload_n 0, 1) := by decide +kernel
theorem dBe_undo_1 : decode cBe_undo 1 = .ok (.getfield 10, 3) := by decide +kernel
theorem dBe_undo_4 : decode cBe_undo 4 = .ok (.invokevirtual 76, 3) := by decide +kernel
theorem dBe_undo_7 : decode cBe_undo 7 = .ok (.ireturn, 1) := by decide +kernel
def f_Be_undo   (σ : Mem) : Option (Int32 × Mem) :=
  bn (f_Hi_stepBack σ) fun (r3 : Int32) (σ2 : Mem) =>
  gd (isB r3) (some (r3, σ2))
set_option maxHeartbeats 4000000 in
set_option maxRecDepth 100000 in
theorem c_Be_undo (l : Launch) (g : Gw) (hg : wInj g) {r0 : Int32} {σ σ0 : Mem} (h : f_Be_undo σ = some (r0, σ0)) : KI l yBe_undo cBe_undo 1 (some .boolean) 1 g [.ref (ad g 0)] σ r0 σ0 := by
  refine q_met g hg (own := "TermBench") rfl rfl (Nat.le_of_ble_eq_true rfl) (fun p e s m args below meth c R Q cx hRk hr hQ H locs ls hP hS hl => ?_)
  have hx := cx.1
  have hb := cx.2.1
  have hown := cx.2.2.2.1
  have hts := cx.2.2.2.2.1
  have hl : lv_has ls 1 [(0, .ref (ad g 0))] := hl
  unfold f_Be_undo at h
  refine lv_aload_n hx hb dBe_undo_0 rfl (lv_at hl 0 rfl) ?_
  refine g_Be_history cx hP  t_157 dBe_undo_1 ?_
  obtain ⟨r3, σ2, h1, h⟩ := bn_some h
  refine q_cVi (rest := []) (As := []) cx hP hS hRk (c_Hi_stepBack l g hg h1) Y_Hi_stepBack V_Hi_stepBack t_298 (by decide) (by decide) (e_1 g _ _) rfl rfl hl.1 rfl (Nat.le_of_ble_eq_true rfl) dBe_undo_4 (fun H locs hP hS => ?_)
  obtain ⟨b4, h⟩ := gd_some h
  exact q_ri cx hr (isB_n b4) hP hS hQ h dBe_undo_7
theorem dBe_redo_0 : decode cBe_redo 0 = .ok (.aload_n 0, 1) := by decide +kernel
theorem dBe_redo_1 : decode cBe_redo 1 = .ok (.getfield 10, 3) := by decide +kernel
theorem dBe_redo_4 : decode cBe_redo 4 = .ok (.invokevirtual 79, 3) := by decide +kernel
theorem dBe_redo_7 : decode cBe_redo 7 = .ok (.ireturn, 1) := by decide +kernel
def f_Be_redo   (σ : Mem) : Option (Int32 × Mem) :=
  bn (f_Hi_stepForth σ) fun (r3 : Int32) (σ2 : Mem) =>
  gd (isB r3) (some (r3, σ2))
set_option maxHeartbeats 4000000 in
set_option maxRecDepth 100000 in
theorem c_Be_redo (l : Launch) (g : Gw) (hg : wInj g) {r0 : Int32} {σ σ0 : Mem} (h : f_Be_redo σ = some (r0, σ0)) : KI l yBe_redo cBe_redo 1 (some .boolean) 1 g [.ref (ad g 0)] σ r0 σ0 := by
  refine q_met g hg (own := "TermBench") rfl rfl (Nat.le_of_ble_eq_true rfl) (fun p e s m args below meth c R Q cx hRk hr hQ H locs ls hP hS hl => ?_)
  have hx := cx.1
  have hb := cx.2.1
  have hown := cx.2.2.2.1
  have hts := cx.2.2.2.2.1
  have hl : lv_has ls 1 [(0, .ref (ad g 0))] := hl
  unfold f_Be_redo at h
  refine lv_aload_n hx hb dBe_redo_0 rfl (lv_at hl 0 rfl) ?_
  refine g_Be_history cx hP  t_157 dBe_redo_1 ?_
  obtain ⟨r3, σ2, h1, h⟩ := bn_some h
  refine q_cVi (rest := []) (As := []) cx hP hS hRk (c_Hi_stepForth l g hg h1) Y_Hi_stepForth V_Hi_stepForth t_306 (by decide) (by decide) (e_1 g _ _) rfl rfl hl.1 rfl (Nat.le_of_ble_eq_true rfl) dBe_redo_4 (fun H locs hP hS => ?_)
  obtain ⟨b4, h⟩ := gd_some h
  exact q_ri cx hr (isB_n b4) hP hS hQ h dBe_redo_7
theorem dBe_moveTo_0 : decode cBe_moveTo 0 = .ok (.iload_n 1, 1) := by decide +kernel
theorem dBe_moveTo_1 : decode cBe_moveTo 1 = .ok (.ifCond .ge 5, 3) := by decide +kernel
theorem dBe_moveTo_4 : decode cBe_moveTo 4 = .ok (.iconst 0, 1) := by decide +kernel
theorem dBe_moveTo_5 : decode cBe_moveTo 5 = .ok (.ireturn, 1) := by decide +kernel
theorem dBe_moveTo_6 : decode cBe_moveTo 6 = .ok (.aload_n 0, 1) := by decide +kernel
theorem dBe_moveTo_7 : decode cBe_moveTo 7 = .ok (.getfield 10, 3) := by decide +kernel
theorem dBe_moveTo_10 : decode cBe_moveTo 10 = .ok (.invokevirtual 53, 3) := by decide +kernel
theorem dBe_moveTo_13 : decode cBe_moveTo 13 = .ok (.iload_n 1, 1) := by decide +kernel
theorem dBe_moveTo_14 : decode cBe_moveTo 14 = .ok (.putfield 69, 3) := by decide +kernel
theorem dBe_moveTo_17 : decode cBe_moveTo 17 = .ok (.iconst 1, 1) := by decide +kernel
theorem dBe_moveTo_18 : decode cBe_moveTo 18 = .ok (.ireturn, 1) := by decide +kernel
def f_Be_moveTo  (v1 : Int32) (σ : Mem) : Option (Int32 × Mem) :=
  if 0 ≤ v1 then (
  bn (f_Hi_present σ) fun (i3 : Nat) (σ2 : Mem) =>
  gd (decide (i3 < 17)) (
  lt_ (sI σ2 (cP i3) 5 v1) fun (σ5 : Mem) =>
  some ((1 : Int32), σ5)))
  else (
  some ((0 : Int32), σ))
set_option maxHeartbeats 4000000 in
set_option maxRecDepth 100000 in
theorem c_Be_moveTo (l : Launch) (g : Gw) (hg : wInj g) {v1 : Int32} {r0 : Int32} {σ σ0 : Mem} (h : f_Be_moveTo v1 σ = some (r0, σ0)) : KI l yBe_moveTo cBe_moveTo 2 (some .boolean) 1 g [.ref (ad g 0), .int v1] σ r0 σ0 := by
  refine q_met g hg (own := "TermBench") rfl rfl (Nat.le_of_ble_eq_true rfl) (fun p e s m args below meth c R Q cx hRk hr hQ H locs ls hP hS hl => ?_)
  have hx := cx.1
  have hb := cx.2.1
  have hown := cx.2.2.2.1
  have hts := cx.2.2.2.2.1
  have hl : lv_has ls 2 [(0, .ref (ad g 0)), (1, .int v1)] := hl
  unfold f_Be_moveTo at h
  refine lv_iload_n hx hb dBe_moveTo_0 rfl (lv_at hl 1 rfl) ?_
  refine lv_if_ge (tgt := 6) hx hb dBe_moveTo_1 (by decide) (fun hc => ?_) (fun hc => ?_)
  · replace h := if_t h hc
    refine lv_aload_n hx hb dBe_moveTo_6 rfl (lv_at hl 0 rfl) ?_
    refine g_Be_history cx hP  t_157 dBe_moveTo_7 ?_
    obtain ⟨i3, σ2, h1, h⟩ := bn_some h
    obtain ⟨b4, h⟩ := gd_some h
    have hi3 : i3 < 17 := of_decide_eq_true b4
    refine q_cVr (rest := []) (As := []) cx hP hS hRk (c_Hi_present l g hg h1) Y_Hi_present V_Hi_present t_178 (by decide) (by decide) (e_1 g _ _) rfl rfl hl.1 rfl (Nat.le_of_ble_eq_true rfl) dBe_moveTo_10 (fun H locs hP hS => ?_)
    refine lv_iload_n hx hb dBe_moveTo_13 rfl (lv_at hl 1 rfl) ?_
    obtain ⟨σ5, eσ5, h⟩ := lt_some h
    refine p_Pr_cursor cx hP hS hi3 t_50 dBe_moveTo_14 eσ5 (fun H locs hP hS => ?_)
    refine lv_iconst (v := 1) hx hb dBe_moveTo_17 (by decide) ?_
    exact q_ri cx hr rfl hP hS hQ h dBe_moveTo_18
  · replace h := if_f h hc
    refine lv_iconst (v := 0) hx hb dBe_moveTo_4 (by decide) ?_
    exact q_ri cx hr rfl hP hS hQ h dBe_moveTo_5
theorem dBe_up_0 : decode cBe_up 0 = .ok (.aload_n 0, 1) := by decide +kernel
theorem dBe_up_1 : decode cBe_up 1 = .ok (.getfield 10, 3) := by decide +kernel
theorem dBe_up_4 : decode cBe_up 4 = .ok (.invokevirtual 53, 3) := by decide +kernel
theorem dBe_up_7 : decode cBe_up 7 = .ok (.astore_n 1, 1) := by decide +kernel
theorem dBe_up_8 : decode cBe_up 8 = .ok (.aload_n 0, 1) := by decide +kernel
theorem dBe_up_9 : decode cBe_up 9 = .ok (.aload_n 1, 1) := by decide +kernel
theorem dBe_up_10 : decode cBe_up 10 = .ok (.aload_n 1, 1) := by decide +kernel
theorem dBe_up_11 : decode cBe_up 11 = .ok (.getfield 69, 3) := by decide +kernel
theorem dBe_up_14 : decode cBe_up 14 = .ok (.invokevirtual 82, 3) := by decide +kernel
theorem dBe_up_17 : decode cBe_up 17 = .ok (.invokevirtual 86, 3) := by decide +kernel
theorem dBe_up_20 : decode cBe_up 20 = .ok (.ireturn, 1) := by decide +kernel
def f_Be_up   (σ : Mem) : Option (Int32 × Mem) :=
  bn (f_Hi_present σ) fun (i3 : Nat) (σ2 : Mem) =>
  gd (decide (i3 < 17)) (
  bn (f_Pr_parent i3 (σ2.1 (cP i3) 5) σ2) fun (r7 : Int32) (σ6 : Mem) =>
  bn (f_Be_moveTo r7 σ6) fun (r10 : Int32) (σ9 : Mem) =>
  gd (isB r10) (some (r10, σ9)))
set_option maxHeartbeats 4000000 in
set_option maxRecDepth 100000 in
theorem c_Be_up (l : Launch) (g : Gw) (hg : wInj g) {r0 : Int32} {σ σ0 : Mem} (h : f_Be_up σ = some (r0, σ0)) : KI l yBe_up cBe_up 2 (some .boolean) 2 g [.ref (ad g 0)] σ r0 σ0 := by
  refine q_met g hg (own := "TermBench") rfl rfl (Nat.le_of_ble_eq_true rfl) (fun p e s m args below meth c R Q cx hRk hr hQ H locs ls hP hS hl => ?_)
  have hx := cx.1
  have hb := cx.2.1
  have hown := cx.2.2.2.1
  have hts := cx.2.2.2.2.1
  have hl : lv_has ls 2 [(0, .ref (ad g 0))] := hl
  unfold f_Be_up at h
  refine lv_aload_n hx hb dBe_up_0 rfl (lv_at hl 0 rfl) ?_
  refine g_Be_history cx hP  t_157 dBe_up_1 ?_
  obtain ⟨i3, σ2, h1, h⟩ := bn_some h
  obtain ⟨b4, h⟩ := gd_some h
  have hi3 : i3 < 17 := of_decide_eq_true b4
  refine q_cVr (rest := []) (As := []) cx hP hS hRk (c_Hi_present l g hg h1) Y_Hi_present V_Hi_present t_178 (by decide) (by decide) (e_1 g _ _) rfl rfl hl.1 rfl (Nat.le_of_ble_eq_true rfl) dBe_up_4 (fun H locs hP hS => ?_)
  refine lv_astore_n (lv' := [(1, .ref (ad g (cP i3))), (0, .ref (ad g 0))]) hx hb dBe_up_7 rfl hl (Nat.le_of_ble_eq_true rfl) rfl (fun ls hl => ?_)
  refine lv_aload_n hx hb dBe_up_8 rfl (lv_at hl 1 rfl) ?_
  refine lv_aload_n hx hb dBe_up_9 rfl (lv_at hl 0 rfl) ?_
  refine lv_aload_n hx hb dBe_up_10 rfl (lv_at hl 0 rfl) ?_
  refine g_Pr_cursor cx hP hi3  t_50 dBe_up_11 ?_
  obtain ⟨r7, σ6, h5, h⟩ := bn_some h
  refine q_cVi (rest := [.ref (ad g 0)]) (As := [.int (σ2.1 (cP i3) 5)]) cx hP hS hRk (c_Pr_parent l g hg hi3 h5) Y_Pr_parent V_Pr_parent t_314 (by decide) (l_cP hi3) (e_cP g hi3 _ _) rfl rfl hl.1 rfl (Nat.le_of_ble_eq_true rfl) dBe_up_14 (fun H locs hP hS => ?_)
  obtain ⟨r10, σ9, h8, h⟩ := bn_some h
  refine q_cVi (rest := []) (As := [.int r7]) cx hP hS hRk (c_Be_moveTo l g hg h8) Y_Be_moveTo V_Be_moveTo t_315 (by decide) (by decide) (e_0 g _ _) rfl rfl hl.1 rfl (Nat.le_of_ble_eq_true rfl) dBe_up_17 (fun H locs hP hS => ?_)
  obtain ⟨b11, h⟩ := gd_some h
  exact q_ri cx hr (isB_n b11) hP hS hQ h dBe_up_20
theorem dBe_down_0 : decode cBe_down 0 = .ok (.aload_n 0, 1) := by decide +kernel
theorem dBe_down_1 : decode cBe_down 1 = .ok (.getfield 10, 3) := by decide +kernel
theorem dBe_down_4 : decode cBe_down 4 = .ok (.invokevirtual 53, 3) := by decide +kernel
theorem dBe_down_7 : decode cBe_down 7 = .ok (.astore_n 2, 1) := by decide +kernel
theorem dBe_down_8 : decode cBe_down 8 = .ok (.aload_n 0, 1) := by decide +kernel
theorem dBe_down_9 : decode cBe_down 9 = .ok (.aload_n 2, 1) := by decide +kernel
theorem dBe_down_10 : decode cBe_down 10 = .ok (.aload_n 2, 1) := by decide +kernel
theorem dBe_down_11 : decode cBe_down 11 = .ok (.getfield 69, 3) := by decide +kernel
theorem dBe_down_14 : decode cBe_down 14 = .ok (.iload_n 1, 1) := by decide +kernel
theorem dBe_down_15 : decode cBe_down 15 = .ok (.invokevirtual 89, 3) := by decide +kernel
theorem dBe_down_18 : decode cBe_down 18 = .ok (.invokevirtual 86, 3) := by decide +kernel
theorem dBe_down_21 : decode cBe_down 21 = .ok (.ireturn, 1) := by decide +kernel
def f_Be_down  (v1 : Int32) (σ : Mem) : Option (Int32 × Mem) :=
  bn (f_Hi_present σ) fun (i3 : Nat) (σ2 : Mem) =>
  gd (decide (i3 < 17)) (
  bn (f_Pr_part i3 (σ2.1 (cP i3) 5) v1 σ2) fun (r7 : Int32) (σ6 : Mem) =>
  bn (f_Be_moveTo r7 σ6) fun (r10 : Int32) (σ9 : Mem) =>
  gd (isB r10) (some (r10, σ9)))
set_option maxHeartbeats 4000000 in
set_option maxRecDepth 100000 in
theorem c_Be_down (l : Launch) (g : Gw) (hg : wInj g) {v1 : Int32} {r0 : Int32} {σ σ0 : Mem} (h : f_Be_down v1 σ = some (r0, σ0)) : KI l yBe_down cBe_down 3 (some .boolean) 2 g [.ref (ad g 0), .int v1] σ r0 σ0 := by
  refine q_met g hg (own := "TermBench") rfl rfl (Nat.le_of_ble_eq_true rfl) (fun p e s m args below meth c R Q cx hRk hr hQ H locs ls hP hS hl => ?_)
  have hx := cx.1
  have hb := cx.2.1
  have hown := cx.2.2.2.1
  have hts := cx.2.2.2.2.1
  have hl : lv_has ls 3 [(0, .ref (ad g 0)), (1, .int v1)] := hl
  unfold f_Be_down at h
  refine lv_aload_n hx hb dBe_down_0 rfl (lv_at hl 0 rfl) ?_
  refine g_Be_history cx hP  t_157 dBe_down_1 ?_
  obtain ⟨i3, σ2, h1, h⟩ := bn_some h
  obtain ⟨b4, h⟩ := gd_some h
  have hi3 : i3 < 17 := of_decide_eq_true b4
  refine q_cVr (rest := []) (As := []) cx hP hS hRk (c_Hi_present l g hg h1) Y_Hi_present V_Hi_present t_178 (by decide) (by decide) (e_1 g _ _) rfl rfl hl.1 rfl (Nat.le_of_ble_eq_true rfl) dBe_down_4 (fun H locs hP hS => ?_)
  refine lv_astore_n (lv' := [(2, .ref (ad g (cP i3))), (0, .ref (ad g 0)), (1, .int v1)]) hx hb dBe_down_7 rfl hl (Nat.le_of_ble_eq_true rfl) rfl (fun ls hl => ?_)
  refine lv_aload_n hx hb dBe_down_8 rfl (lv_at hl 1 rfl) ?_
  refine lv_aload_n hx hb dBe_down_9 rfl (lv_at hl 0 rfl) ?_
  refine lv_aload_n hx hb dBe_down_10 rfl (lv_at hl 0 rfl) ?_
  refine g_Pr_cursor cx hP hi3  t_50 dBe_down_11 ?_
  refine lv_iload_n hx hb dBe_down_14 rfl (lv_at hl 2 rfl) ?_
  obtain ⟨r7, σ6, h5, h⟩ := bn_some h
  refine q_cVi (rest := [.ref (ad g 0)]) (As := [.int (σ2.1 (cP i3) 5), .int v1]) cx hP hS hRk (c_Pr_part l g hg hi3 h5) Y_Pr_part V_Pr_part t_323 (by decide) (l_cP hi3) (e_cP g hi3 _ _) rfl rfl hl.1 rfl (Nat.le_of_ble_eq_true rfl) dBe_down_15 (fun H locs hP hS => ?_)
  obtain ⟨r10, σ9, h8, h⟩ := bn_some h
  refine q_cVi (rest := []) (As := [.int r7]) cx hP hS hRk (c_Be_moveTo l g hg h8) Y_Be_moveTo V_Be_moveTo t_315 (by decide) (by decide) (e_0 g _ _) rfl rfl hl.1 rfl (Nat.le_of_ble_eq_true rfl) dBe_down_18 (fun H locs hP hS => ?_)
  obtain ⟨b11, h⟩ := gd_some h
  exact q_ri cx hr (isB_n b11) hP hS hQ h dBe_down_21
theorem dBe_written_0 : decode cBe_written 0 = .ok (.aload_n 0, 1) := by decide +kernel
theorem dBe_written_1 : decode cBe_written 1 = .ok (.getfield 26, 3) := by decide +kernel
theorem dBe_written_4 : decode cBe_written 4 = .ok (.getfield 175, 3) := by decide +kernel
theorem dBe_written_7 : decode cBe_written 7 = .ok (.aload_n 0, 1) := by decide +kernel
theorem dBe_written_8 : decode cBe_written 8 = .ok (.getfield 10, 3) := by decide +kernel
theorem dBe_written_11 : decode cBe_written 11 = .ok (.getfield 170, 3) := by decide +kernel
theorem dBe_written_14 : decode cBe_written 14 = .ok (.if_icmp .eq 40, 3) := by decide +kernel
theorem dBe_written_17 : decode cBe_written 17 = .ok (.aload_n 0, 1) := by decide +kernel
theorem dBe_written_18 : decode cBe_written 18 = .ok (.getfield 26, 3) := by decide +kernel
theorem dBe_written_21 : decode cBe_written 21 = .ok (.aload_n 0, 1) := by decide +kernel
theorem dBe_written_22 : decode cBe_written 22 = .ok (.getfield 10, 3) := by decide +kernel
theorem dBe_written_25 : decode cBe_written 25 = .ok (.getfield 170, 3) := by decide +kernel
theorem dBe_written_28 : decode cBe_written 28 = .ok (.putfield 175, 3) := by decide +kernel
theorem dBe_written_31 : decode cBe_written 31 = .ok (.aload_n 0, 1) := by decide +kernel
theorem dBe_written_32 : decode cBe_written 32 = .ok (.getfield 26, 3) := by decide +kernel
theorem dBe_written_35 : decode cBe_written 35 = .ok (.invokevirtual 176, 3) := by decide +kernel
theorem dBe_written_38 : decode cBe_written 38 = .ok (.aload_n 0, 1) := by decide +kernel
theorem dBe_written_39 : decode cBe_written 39 = .ok (.getfield 26, 3) := by decide +kernel
theorem dBe_written_42 : decode cBe_written 42 = .ok (.aload_n 0, 1) := by decide +kernel
theorem dBe_written_43 : decode cBe_written 43 = .ok (.getfield 10, 3) := by decide +kernel
theorem dBe_written_46 : decode cBe_written 46 = .ok (.invokevirtual 53, 3) := by decide +kernel
theorem dBe_written_49 : decode cBe_written 49 = .ok (.iconst 0, 1) := by decide +kernel
theorem dBe_written_50 : decode cBe_written 50 = .ok (.iconst 0, 1) := by decide +kernel
theorem dBe_written_51 : decode cBe_written 51 = .ok (.invokevirtual 179, 3) := by decide +kernel
theorem dBe_written_54 : decode cBe_written 54 = .ok (.aload_n 0, 1) := by decide +kernel
theorem dBe_written_55 : decode cBe_written 55 = .ok (.getfield 26, 3) := by decide +kernel
theorem dBe_written_58 : decode cBe_written 58 = .ok (.areturn, 1) := by decide +kernel
def f_Be_written_J54   (σ : Mem) : Option (Nat × Mem) :=
  some (7, σ)
def f_Be_written   (σ : Mem) : Option (Nat × Mem) :=
  if (σ.1 7 4) = (σ.1 1 4) then (
  f_Be_written_J54 σ)
  else (
  lt_ (sI σ 7 4 (σ.1 1 4)) fun (σ1 : Mem) =>
  bn (f_Pa_clear σ1) fun (_ : Unit) (σ3 : Mem) =>
  bn (f_Hi_present σ3) fun (i6 : Nat) (σ5 : Mem) =>
  gd (decide (i6 < 17)) (
  bn (F_Pa_writeTerm 13 i6 (0 : Int32) (0 : Int32) σ5) fun (_ : Unit) (σ9 : Mem) =>
  f_Be_written_J54 σ9))
set_option maxHeartbeats 4000000 in
set_option maxRecDepth 100000 in
theorem c_Be_written (l : Launch) (g : Gw) (hg : wInj g) {r0 : Nat} {σ σ0 : Mem} (h : f_Be_written σ = some (r0, σ0)) : KR l yBe_written cBe_written 1 (some (.object "TermBench$Page")) 58 g [.ref (ad g 0)] σ 7 σ0 := by
  refine q_met g hg (own := "TermBench") rfl rfl (Nat.le_of_ble_eq_true rfl) (fun p e s m args below meth c R Q cx hRk hr hQ H locs ls hP hS hl => ?_)
  have hx := cx.1
  have hb := cx.2.1
  have hown := cx.2.2.2.1
  have hts := cx.2.2.2.2.1
  have hl : lv_has ls 1 [(0, .ref (ad g 0))] := hl
  have J54 : ∀ (σ : Mem), f_Be_written_J54 σ = some (r0, σ0) → ∀ (H : Heap) (locs : List Loc) (ls : Array Slot), lv_has ls 1 [(0, .ref (ad g 0))] → Wd g σ H → va_S (wA g) s.heap H locs → W p l e R s m args below meth c H locs 0 0 Q (F0 m 54 ls []) := by
    intro  σ h H locs ls hl hP hS
    unfold f_Be_written_J54 at h
    refine lv_aload_n hx hb dBe_written_54 rfl (lv_at hl 0 rfl) ?_
    refine g_Be_page cx hP  t_159 dBe_written_55 ?_
    exact q_rr cx hr hP hS hQ (q_r1 h) dBe_written_58
  unfold f_Be_written at h
  refine lv_aload_n hx hb dBe_written_0 rfl (lv_at hl 0 rfl) ?_
  refine g_Be_page cx hP  t_159 dBe_written_1 ?_
  refine g_Pa_change cx hP  t_118 dBe_written_4 ?_
  refine lv_aload_n hx hb dBe_written_7 rfl (lv_at hl 0 rfl) ?_
  refine g_Be_history cx hP  t_157 dBe_written_8 ?_
  refine g_Hi_change cx hP  t_71 dBe_written_11 ?_
  refine lv_icmp_eq (tgt := 54) hx hb dBe_written_14 (by decide) (fun hc => ?_) (fun hc => ?_)
  · replace h := if_t h hc
    exact J54 _ h _ _ _ (lv_sub hl [0] rfl) hP hS
  · replace h := if_f h hc
    refine lv_aload_n hx hb dBe_written_17 rfl (lv_at hl 0 rfl) ?_
    refine g_Be_page cx hP  t_159 dBe_written_18 ?_
    refine lv_aload_n hx hb dBe_written_21 rfl (lv_at hl 0 rfl) ?_
    refine g_Be_history cx hP  t_157 dBe_written_22 ?_
    refine g_Hi_change cx hP  t_71 dBe_written_25 ?_
    obtain ⟨σ1, eσ1, h⟩ := lt_some h
    refine p_Pa_change cx hP hS t_118 dBe_written_28 eσ1 (fun H locs hP hS => ?_)
    refine lv_aload_n hx hb dBe_written_31 rfl (lv_at hl 0 rfl) ?_
    refine g_Be_page cx hP  t_159 dBe_written_32 ?_
    obtain ⟨rh2, σ3, h2, h⟩ := bn_some h
    refine q_cVv (rest := []) (As := []) cx hP hS hRk (c_Pa_clear l g hg h2) Y_Pa_clear V_Pa_clear t_335 (by decide) (by decide) (e_7 g _ _) rfl rfl hl.1 rfl (Nat.le_of_ble_eq_true rfl) dBe_written_35 (fun H locs hP hS => ?_)
    refine lv_aload_n hx hb dBe_written_38 rfl (lv_at hl 0 rfl) ?_
    refine g_Be_page cx hP  t_159 dBe_written_39 ?_
    refine lv_aload_n hx hb dBe_written_42 rfl (lv_at hl 0 rfl) ?_
    refine g_Be_history cx hP  t_157 dBe_written_43 ?_
    obtain ⟨i6, σ5, h4, h⟩ := bn_some h
    obtain ⟨b7, h⟩ := gd_some h
    have hi6 : i6 < 17 := of_decide_eq_true b7
    refine q_cVr (rest := [.ref (ad g 7)]) (As := []) cx hP hS hRk (c_Hi_present l g hg h4) Y_Hi_present V_Hi_present t_178 (by decide) (by decide) (e_1 g _ _) rfl rfl hl.1 rfl (Nat.le_of_ble_eq_true rfl) dBe_written_46 (fun H locs hP hS => ?_)
    refine lv_iconst (v := 0) hx hb dBe_written_49 (by decide) ?_
    refine lv_iconst (v := 0) hx hb dBe_written_50 (by decide) ?_
    obtain ⟨rh8, σ9, h8, h⟩ := bn_some h
    refine q_cVv (rest := []) (As := [.ref (ad g (cP i6)), .int (0 : Int32), .int (0 : Int32)]) cx hP hS hRk (C_Pa_writeTerm l g hg 13 hi6 h8) Y_Pa_writeTerm V_Pa_writeTerm t_342 (by decide) (by decide) (e_7 g _ _) rfl rfl hl.1 rfl (Nat.le_of_ble_eq_true rfl) dBe_written_51 (fun H locs hP hS => ?_)
    exact J54 _ h _ _ _ (lv_sub hl [0] rfl) hP hS
theorem dBe_hole_0 : decode cBe_hole 0 = .ok (.aload_n 0, 1) := by decide +kernel
theorem dBe_hole_1 : decode cBe_hole 1 = .ok (.aload_n 0, 1) := by decide +kernel
theorem dBe_hole_2 : decode cBe_hole 2 = .ok (.invokevirtual 93, 3) := by decide +kernel
theorem dBe_hole_5 : decode cBe_hole 5 = .ok (.aload_n 0, 1) := by decide +kernel
theorem dBe_hole_6 : decode cBe_hole 6 = .ok (.getfield 10, 3) := by decide +kernel
theorem dBe_hole_9 : decode cBe_hole 9 = .ok (.invokevirtual 53, 3) := by decide +kernel
theorem dBe_hole_12 : decode cBe_hole 12 = .ok (.invokevirtual 97, 3) := by decide +kernel
theorem dBe_hole_15 : decode cBe_hole 15 = .ok (.invokevirtual 86, 3) := by decide +kernel
theorem dBe_hole_18 : decode cBe_hole 18 = .ok (.ireturn, 1) := by decide +kernel
def f_Be_hole   (σ : Mem) : Option (Int32 × Mem) :=
  bn (f_Be_written σ) fun (_ : Nat) (σ2 : Mem) =>
  bn (f_Hi_present σ2) fun (i5 : Nat) (σ4 : Mem) =>
  gd (decide (i5 < 17)) (
  bn (f_Pa_nextHole i5 σ4) fun (r9 : Int32) (σ8 : Mem) =>
  bn (f_Be_moveTo r9 σ8) fun (r12 : Int32) (σ11 : Mem) =>
  gd (isB r12) (some (r12, σ11)))
set_option maxHeartbeats 4000000 in
set_option maxRecDepth 100000 in
theorem c_Be_hole (l : Launch) (g : Gw) (hg : wInj g) {r0 : Int32} {σ σ0 : Mem} (h : f_Be_hole σ = some (r0, σ0)) : KI l yBe_hole cBe_hole 1 (some .boolean) 59 g [.ref (ad g 0)] σ r0 σ0 := by
  refine q_met g hg (own := "TermBench") rfl rfl (Nat.le_of_ble_eq_true rfl) (fun p e s m args below meth c R Q cx hRk hr hQ H locs ls hP hS hl => ?_)
  have hx := cx.1
  have hb := cx.2.1
  have hown := cx.2.2.2.1
  have hts := cx.2.2.2.2.1
  have hl : lv_has ls 1 [(0, .ref (ad g 0))] := hl
  unfold f_Be_hole at h
  refine lv_aload_n hx hb dBe_hole_0 rfl (lv_at hl 0 rfl) ?_
  refine lv_aload_n hx hb dBe_hole_1 rfl (lv_at hl 0 rfl) ?_
  obtain ⟨rh1, σ2, h1, h⟩ := bn_some h
  refine q_cVr (rest := [.ref (ad g 0)]) (As := []) cx hP hS hRk (c_Be_written l g hg h1) Y_Be_written V_Be_written t_331 (by decide) (by decide) (e_0 g _ _) rfl rfl hl.1 rfl (Nat.le_of_ble_eq_true rfl) dBe_hole_2 (fun H locs hP hS => ?_)
  refine lv_aload_n hx hb dBe_hole_5 rfl (lv_at hl 0 rfl) ?_
  refine g_Be_history cx hP  t_157 dBe_hole_6 ?_
  obtain ⟨i5, σ4, h3, h⟩ := bn_some h
  obtain ⟨b6, h⟩ := gd_some h
  have hi5 : i5 < 17 := of_decide_eq_true b6
  refine q_cVr (rest := [.ref (ad g 7), .ref (ad g 0)]) (As := []) cx hP hS hRk (c_Hi_present l g hg h3) Y_Hi_present V_Hi_present t_178 (by decide) (by decide) (e_1 g _ _) rfl rfl hl.1 rfl (Nat.le_of_ble_eq_true rfl) dBe_hole_9 (fun H locs hP hS => ?_)
  obtain ⟨r9, σ8, h7, h⟩ := bn_some h
  refine q_cVi (rest := [.ref (ad g 0)]) (As := [.ref (ad g (cP i5))]) cx hP hS hRk (c_Pa_nextHole l g hg hi5 h7) Y_Pa_nextHole V_Pa_nextHole t_382 (by decide) (by decide) (e_7 g _ _) rfl rfl hl.1 rfl (Nat.le_of_ble_eq_true rfl) dBe_hole_12 (fun H locs hP hS => ?_)
  obtain ⟨r12, σ11, h10, h⟩ := bn_some h
  refine q_cVi (rest := []) (As := [.int r9]) cx hP hS hRk (c_Be_moveTo l g hg h10) Y_Be_moveTo V_Be_moveTo t_315 (by decide) (by decide) (e_0 g _ _) rfl rfl hl.1 rfl (Nat.le_of_ble_eq_true rfl) dBe_hole_15 (fun H locs hP hS => ?_)
  obtain ⟨b13, h⟩ := gd_some h
  exact q_ri cx hr (isB_n b13) hP hS hQ h dBe_hole_18
theorem dBe_click_0 : decode cBe_click 0 = .ok (.aload_n 0, 1) := by decide +kernel
theorem dBe_click_1 : decode cBe_click 1 = .ok (.aload_n 0, 1) := by decide +kernel
theorem dBe_click_2 : decode cBe_click 2 = .ok (.invokevirtual 93, 3) := by decide +kernel
theorem dBe_click_5 : decode cBe_click 5 = .ok (.aload_n 0, 1) := by decide +kernel
theorem dBe_click_6 : decode cBe_click 6 = .ok (.getfield 10, 3) := by decide +kernel
theorem dBe_click_9 : decode cBe_click 9 = .ok (.invokevirtual 53, 3) := by decide +kernel
theorem dBe_click_12 : decode cBe_click 12 = .ok (.iload_n 1, 1) := by decide +kernel
theorem dBe_click_13 : decode cBe_click 13 = .ok (.invokevirtual 101, 3) := by decide +kernel
theorem dBe_click_16 : decode cBe_click 16 = .ok (.invokevirtual 86, 3) := by decide +kernel
theorem dBe_click_19 : decode cBe_click 19 = .ok (.ireturn, 1) := by decide +kernel
def f_Be_click  (v1 : Int32) (σ : Mem) : Option (Int32 × Mem) :=
  bn (f_Be_written σ) fun (_ : Nat) (σ2 : Mem) =>
  bn (f_Hi_present σ2) fun (i5 : Nat) (σ4 : Mem) =>
  gd (decide (i5 < 17)) (
  bn (f_Pa_innermost i5 v1 σ4) fun (r9 : Int32) (σ8 : Mem) =>
  bn (f_Be_moveTo r9 σ8) fun (r12 : Int32) (σ11 : Mem) =>
  gd (isB r12) (some (r12, σ11)))
set_option maxHeartbeats 4000000 in
set_option maxRecDepth 100000 in
theorem c_Be_click (l : Launch) (g : Gw) (hg : wInj g) {v1 : Int32} {r0 : Int32} {σ σ0 : Mem} (h : f_Be_click v1 σ = some (r0, σ0)) : KI l yBe_click cBe_click 2 (some .boolean) 59 g [.ref (ad g 0), .int v1] σ r0 σ0 := by
  refine q_met g hg (own := "TermBench") rfl rfl (Nat.le_of_ble_eq_true rfl) (fun p e s m args below meth c R Q cx hRk hr hQ H locs ls hP hS hl => ?_)
  have hx := cx.1
  have hb := cx.2.1
  have hown := cx.2.2.2.1
  have hts := cx.2.2.2.2.1
  have hl : lv_has ls 2 [(0, .ref (ad g 0)), (1, .int v1)] := hl
  unfold f_Be_click at h
  refine lv_aload_n hx hb dBe_click_0 rfl (lv_at hl 0 rfl) ?_
  refine lv_aload_n hx hb dBe_click_1 rfl (lv_at hl 0 rfl) ?_
  obtain ⟨rh1, σ2, h1, h⟩ := bn_some h
  refine q_cVr (rest := [.ref (ad g 0)]) (As := []) cx hP hS hRk (c_Be_written l g hg h1) Y_Be_written V_Be_written t_331 (by decide) (by decide) (e_0 g _ _) rfl rfl hl.1 rfl (Nat.le_of_ble_eq_true rfl) dBe_click_2 (fun H locs hP hS => ?_)
  refine lv_aload_n hx hb dBe_click_5 rfl (lv_at hl 0 rfl) ?_
  refine g_Be_history cx hP  t_157 dBe_click_6 ?_
  obtain ⟨i5, σ4, h3, h⟩ := bn_some h
  obtain ⟨b6, h⟩ := gd_some h
  have hi5 : i5 < 17 := of_decide_eq_true b6
  refine q_cVr (rest := [.ref (ad g 7), .ref (ad g 0)]) (As := []) cx hP hS hRk (c_Hi_present l g hg h3) Y_Hi_present V_Hi_present t_178 (by decide) (by decide) (e_1 g _ _) rfl rfl hl.1 rfl (Nat.le_of_ble_eq_true rfl) dBe_click_9 (fun H locs hP hS => ?_)
  refine lv_iload_n hx hb dBe_click_12 rfl (lv_at hl 1 rfl) ?_
  obtain ⟨r9, σ8, h7, h⟩ := bn_some h
  refine q_cVi (rest := [.ref (ad g 0)]) (As := [.ref (ad g (cP i5)), .int v1]) cx hP hS hRk (c_Pa_innermost l g hg hi5 h7) Y_Pa_innermost V_Pa_innermost t_390 (by decide) (by decide) (e_7 g _ _) rfl rfl hl.1 rfl (Nat.le_of_ble_eq_true rfl) dBe_click_13 (fun H locs hP hS => ?_)
  obtain ⟨r12, σ11, h10, h⟩ := bn_some h
  refine q_cVi (rest := []) (As := [.int r9]) cx hP hS hRk (c_Be_moveTo l g hg h10) Y_Be_moveTo V_Be_moveTo t_315 (by decide) (by decide) (e_0 g _ _) rfl rfl hl.1 rfl (Nat.le_of_ble_eq_true rfl) dBe_click_16 (fun H locs hP hS => ?_)
  obtain ⟨b13, h⟩ := gd_some h
  exact q_ri cx hr (isB_n b13) hP hS hQ h dBe_click_19
theorem dBe_column_0 : decode cBe_column 0 = .ok (.aload_n 0, 1) := by decide +kernel
theorem dBe_column_1 : decode cBe_column 1 = .ok (.invokevirtual 93, 3) := by decide +kernel
theorem dBe_column_4 : decode cBe_column 4 = .ok (.getfield 105, 3) := by decide +kernel
theorem dBe_column_7 : decode cBe_column 7 = .ok (.aload_n 0, 1) := by decide +kernel
theorem dBe_column_8 : decode cBe_column 8 = .ok (.getfield 10, 3) := by decide +kernel
theorem dBe_column_11 : decode cBe_column 11 = .ok (.invokevirtual 53, 3) := by decide +kernel
theorem dBe_column_14 : decode cBe_column 14 = .ok (.getfield 69, 3) := by decide +kernel
theorem dBe_column_17 : decode cBe_column 17 = .ok (.iaload, 1) := by decide +kernel
theorem dBe_column_18 : decode cBe_column 18 = .ok (.ireturn, 1) := by decide +kernel
def f_Be_column   (σ : Mem) : Option (Int32 × Mem) :=
  bn (f_Be_written σ) fun (_ : Nat) (σ2 : Mem) =>
  bn (f_Hi_present σ2) fun (i5 : Nat) (σ4 : Mem) =>
  gd (decide (i5 < 17)) (
  gd (inb (σ4.1 (cP i5) 5) 40) (
  some (σ4.1 9 (σ4.1 (cP i5) 5).toNatClampNeg, σ4)))
set_option maxHeartbeats 4000000 in
set_option maxRecDepth 100000 in
theorem c_Be_column (l : Launch) (g : Gw) (hg : wInj g) {r0 : Int32} {σ σ0 : Mem} (h : f_Be_column σ = some (r0, σ0)) : KI l yBe_column cBe_column 1 (some .int) 59 g [.ref (ad g 0)] σ r0 σ0 := by
  refine q_met g hg (own := "TermBench") rfl rfl (Nat.le_of_ble_eq_true rfl) (fun p e s m args below meth c R Q cx hRk hr hQ H locs ls hP hS hl => ?_)
  have hx := cx.1
  have hb := cx.2.1
  have hown := cx.2.2.2.1
  have hts := cx.2.2.2.2.1
  have hl : lv_has ls 1 [(0, .ref (ad g 0))] := hl
  unfold f_Be_column at h
  refine lv_aload_n hx hb dBe_column_0 rfl (lv_at hl 0 rfl) ?_
  obtain ⟨rh1, σ2, h1, h⟩ := bn_some h
  refine q_cVr (rest := []) (As := []) cx hP hS hRk (c_Be_written l g hg h1) Y_Be_written V_Be_written t_331 (by decide) (by decide) (e_0 g _ _) rfl rfl hl.1 rfl (Nat.le_of_ble_eq_true rfl) dBe_column_1 (fun H locs hP hS => ?_)
  refine g_Pa_begins cx hP  t_114 dBe_column_4 ?_
  refine lv_aload_n hx hb dBe_column_7 rfl (lv_at hl 0 rfl) ?_
  refine g_Be_history cx hP  t_157 dBe_column_8 ?_
  obtain ⟨i5, σ4, h3, h⟩ := bn_some h
  obtain ⟨b6, h⟩ := gd_some h
  have hi5 : i5 < 17 := of_decide_eq_true b6
  refine q_cVr (rest := [.ref (ad g 9)]) (As := []) cx hP hS hRk (c_Hi_present l g hg h3) Y_Hi_present V_Hi_present t_178 (by decide) (by decide) (e_1 g _ _) rfl rfl hl.1 rfl (Nat.le_of_ble_eq_true rfl) dBe_column_11 (fun H locs hP hS => ?_)
  refine g_Pr_cursor cx hP hi5  t_50 dBe_column_14 ?_
  obtain ⟨b7, h⟩ := gd_some h
  refine q_iald cx hP (by decide) (e_9 g) b7 dBe_column_17 ?_
  exact q_ri cx hr rfl hP hS hQ h dBe_column_18
theorem dBe_kind_0 : decode cBe_kind 0 = .ok (.aload_n 0, 1) := by decide +kernel
theorem dBe_kind_1 : decode cBe_kind 1 = .ok (.getfield 10, 3) := by decide +kernel
theorem dBe_kind_4 : decode cBe_kind 4 = .ok (.invokevirtual 53, 3) := by decide +kernel
theorem dBe_kind_7 : decode cBe_kind 7 = .ok (.astore_n 1, 1) := by decide +kernel
theorem dBe_kind_8 : decode cBe_kind 8 = .ok (.aload_n 1, 1) := by decide +kernel
theorem dBe_kind_9 : decode cBe_kind 9 = .ok (.getfield 109, 3) := by decide +kernel
theorem dBe_kind_12 : decode cBe_kind 12 = .ok (.aload_n 1, 1) := by decide +kernel
theorem dBe_kind_13 : decode cBe_kind 13 = .ok (.getfield 69, 3) := by decide +kernel
theorem dBe_kind_16 : decode cBe_kind 16 = .ok (.iaload, 1) := by decide +kernel
theorem dBe_kind_17 : decode cBe_kind 17 = .ok (.ireturn, 1) := by decide +kernel
def f_Be_kind   (σ : Mem) : Option (Int32 × Mem) :=
  bn (f_Hi_present σ) fun (i3 : Nat) (σ2 : Mem) =>
  gd (decide (i3 < 17)) (
  gd (inb (σ2.1 (cP i3) 5) 40) (
  some (σ2.1 (cPk i3) (σ2.1 (cP i3) 5).toNatClampNeg, σ2)))
set_option maxHeartbeats 4000000 in
set_option maxRecDepth 100000 in
theorem c_Be_kind (l : Launch) (g : Gw) (hg : wInj g) {r0 : Int32} {σ σ0 : Mem} (h : f_Be_kind σ = some (r0, σ0)) : KI l yBe_kind cBe_kind 2 (some .int) 1 g [.ref (ad g 0)] σ r0 σ0 := by
  refine q_met g hg (own := "TermBench") rfl rfl (Nat.le_of_ble_eq_true rfl) (fun p e s m args below meth c R Q cx hRk hr hQ H locs ls hP hS hl => ?_)
  have hx := cx.1
  have hb := cx.2.1
  have hown := cx.2.2.2.1
  have hts := cx.2.2.2.2.1
  have hl : lv_has ls 2 [(0, .ref (ad g 0))] := hl
  unfold f_Be_kind at h
  refine lv_aload_n hx hb dBe_kind_0 rfl (lv_at hl 0 rfl) ?_
  refine g_Be_history cx hP  t_157 dBe_kind_1 ?_
  obtain ⟨i3, σ2, h1, h⟩ := bn_some h
  obtain ⟨b4, h⟩ := gd_some h
  have hi3 : i3 < 17 := of_decide_eq_true b4
  refine q_cVr (rest := []) (As := []) cx hP hS hRk (c_Hi_present l g hg h1) Y_Hi_present V_Hi_present t_178 (by decide) (by decide) (e_1 g _ _) rfl rfl hl.1 rfl (Nat.le_of_ble_eq_true rfl) dBe_kind_4 (fun H locs hP hS => ?_)
  refine lv_astore_n (lv' := [(1, .ref (ad g (cP i3))), (0, .ref (ad g 0))]) hx hb dBe_kind_7 rfl hl (Nat.le_of_ble_eq_true rfl) rfl (fun ls hl => ?_)
  refine lv_aload_n hx hb dBe_kind_8 rfl (lv_at hl 0 rfl) ?_
  refine g_Pr_kinds cx hP hi3  t_37 dBe_kind_9 ?_
  refine lv_aload_n hx hb dBe_kind_12 rfl (lv_at hl 0 rfl) ?_
  refine g_Pr_cursor cx hP hi3  t_50 dBe_kind_13 ?_
  obtain ⟨b5, h⟩ := gd_some h
  refine q_iald cx hP (l_cPk hi3) (e_cPk g hi3) b5 dBe_kind_16 ?_
  exact q_ri cx hr rfl hP hS hQ h dBe_kind_17
theorem dBe_typed_0 : decode cBe_typed 0 = .ok (.aload_n 0, 1) := by decide +kernel
theorem dBe_typed_1 : decode cBe_typed 1 = .ok (.getfield 19, 3) := by decide +kernel
theorem dBe_typed_4 : decode cBe_typed 4 = .ok (.getfield 167, 3) := by decide +kernel
theorem dBe_typed_7 : decode cBe_typed 7 = .ok (.aload_n 0, 1) := by decide +kernel
theorem dBe_typed_8 : decode cBe_typed 8 = .ok (.getfield 10, 3) := by decide +kernel
theorem dBe_typed_11 : decode cBe_typed 11 = .ok (.getfield 170, 3) := by decide +kernel
theorem dBe_typed_14 : decode cBe_typed 14 = .ok (.if_icmp .eq 35, 3) := by decide +kernel
theorem dBe_typed_17 : decode cBe_typed 17 = .ok (.aload_n 0, 1) := by decide +kernel
theorem dBe_typed_18 : decode cBe_typed 18 = .ok (.getfield 19, 3) := by decide +kernel
theorem dBe_typed_21 : decode cBe_typed 21 = .ok (.aload_n 0, 1) := by decide +kernel
theorem dBe_typed_22 : decode cBe_typed 22 = .ok (.getfield 10, 3) := by decide +kernel
theorem dBe_typed_25 : decode cBe_typed 25 = .ok (.getfield 170, 3) := by decide +kernel
theorem dBe_typed_28 : decode cBe_typed 28 = .ok (.putfield 167, 3) := by decide +kernel
theorem dBe_typed_31 : decode cBe_typed 31 = .ok (.aload_n 0, 1) := by decide +kernel
theorem dBe_typed_32 : decode cBe_typed 32 = .ok (.getfield 19, 3) := by decide +kernel
theorem dBe_typed_35 : decode cBe_typed 35 = .ok (.aload_n 0, 1) := by decide +kernel
theorem dBe_typed_36 : decode cBe_typed 36 = .ok (.getfield 10, 3) := by decide +kernel
theorem dBe_typed_39 : decode cBe_typed 39 = .ok (.invokevirtual 53, 3) := by decide +kernel
theorem dBe_typed_42 : decode cBe_typed 42 = .ok (.iconst 0, 1) := by decide +kernel
theorem dBe_typed_43 : decode cBe_typed 43 = .ok (.lconst 0, 1) := by decide +kernel
theorem dBe_typed_44 : decode cBe_typed 44 = .ok (.iconst 0, 1) := by decide +kernel
theorem dBe_typed_45 : decode cBe_typed 45 = .ok (.invokevirtual 171, 3) := by decide +kernel
theorem dBe_typed_48 : decode cBe_typed 48 = .ok (.pop2, 1) := by decide +kernel
theorem dBe_typed_49 : decode cBe_typed 49 = .ok (.aload_n 0, 1) := by decide +kernel
theorem dBe_typed_50 : decode cBe_typed 50 = .ok (.getfield 19, 3) := by decide +kernel
theorem dBe_typed_53 : decode cBe_typed 53 = .ok (.areturn, 1) := by decide +kernel
def f_Be_typed_J49   (σ : Mem) : Option (Nat × Mem) :=
  some (3, σ)
def f_Be_typed   (σ : Mem) : Option (Nat × Mem) :=
  if (σ.1 3 3) = (σ.1 1 4) then (
  f_Be_typed_J49 σ)
  else (
  lt_ (sI σ 3 3 (σ.1 1 4)) fun (σ1 : Mem) =>
  bn (f_Hi_present σ1) fun (i4 : Nat) (σ3 : Mem) =>
  gd (decide (i4 < 17)) (
  bn (F_Tg_typeTerm 13 i4 (0 : Int32) (0 : Int64) (0 : Int32) σ3) fun (r8 : Int64) (σ7 : Mem) =>
  f_Be_typed_J49 σ7))
set_option maxHeartbeats 4000000 in
set_option maxRecDepth 100000 in
theorem c_Be_typed (l : Launch) (g : Gw) (hg : wInj g) {r0 : Nat} {σ σ0 : Mem} (h : f_Be_typed σ = some (r0, σ0)) : KR l yBe_typed cBe_typed 1 (some (.object "TermBench$Typing")) 71 g [.ref (ad g 0)] σ 3 σ0 := by
  refine q_met g hg (own := "TermBench") rfl rfl (Nat.le_of_ble_eq_true rfl) (fun p e s m args below meth c R Q cx hRk hr hQ H locs ls hP hS hl => ?_)
  have hx := cx.1
  have hb := cx.2.1
  have hown := cx.2.2.2.1
  have hts := cx.2.2.2.2.1
  have hl : lv_has ls 1 [(0, .ref (ad g 0))] := hl
  have J49 : ∀ (σ : Mem), f_Be_typed_J49 σ = some (r0, σ0) → ∀ (H : Heap) (locs : List Loc) (ls : Array Slot), lv_has ls 1 [(0, .ref (ad g 0))] → Wd g σ H → va_S (wA g) s.heap H locs → W p l e R s m args below meth c H locs 0 0 Q (F0 m 49 ls []) := by
    intro  σ h H locs ls hl hP hS
    unfold f_Be_typed_J49 at h
    refine lv_aload_n hx hb dBe_typed_49 rfl (lv_at hl 0 rfl) ?_
    refine g_Be_typing cx hP  t_158 dBe_typed_50 ?_
    exact q_rr cx hr hP hS hQ (q_r1 h) dBe_typed_53
  unfold f_Be_typed at h
  refine lv_aload_n hx hb dBe_typed_0 rfl (lv_at hl 0 rfl) ?_
  refine g_Be_typing cx hP  t_158 dBe_typed_1 ?_
  refine g_Tg_change cx hP  t_96 dBe_typed_4 ?_
  refine lv_aload_n hx hb dBe_typed_7 rfl (lv_at hl 0 rfl) ?_
  refine g_Be_history cx hP  t_157 dBe_typed_8 ?_
  refine g_Hi_change cx hP  t_71 dBe_typed_11 ?_
  refine lv_icmp_eq (tgt := 49) hx hb dBe_typed_14 (by decide) (fun hc => ?_) (fun hc => ?_)
  · replace h := if_t h hc
    exact J49 _ h _ _ _ (lv_sub hl [0] rfl) hP hS
  · replace h := if_f h hc
    refine lv_aload_n hx hb dBe_typed_17 rfl (lv_at hl 0 rfl) ?_
    refine g_Be_typing cx hP  t_158 dBe_typed_18 ?_
    refine lv_aload_n hx hb dBe_typed_21 rfl (lv_at hl 0 rfl) ?_
    refine g_Be_history cx hP  t_157 dBe_typed_22 ?_
    refine g_Hi_change cx hP  t_71 dBe_typed_25 ?_
    obtain ⟨σ1, eσ1, h⟩ := lt_some h
    refine p_Tg_change cx hP hS t_96 dBe_typed_28 eσ1 (fun H locs hP hS => ?_)
    refine lv_aload_n hx hb dBe_typed_31 rfl (lv_at hl 0 rfl) ?_
    refine g_Be_typing cx hP  t_158 dBe_typed_32 ?_
    refine lv_aload_n hx hb dBe_typed_35 rfl (lv_at hl 0 rfl) ?_
    refine g_Be_history cx hP  t_157 dBe_typed_36 ?_
    obtain ⟨i4, σ3, h2, h⟩ := bn_some h
    obtain ⟨b5, h⟩ := gd_some h
    have hi4 : i4 < 17 := of_decide_eq_true b5
    refine q_cVr (rest := [.ref (ad g 3)]) (As := []) cx hP hS hRk (c_Hi_present l g hg h2) Y_Hi_present V_Hi_present t_178 (by decide) (by decide) (e_1 g _ _) rfl rfl hl.1 rfl (Nat.le_of_ble_eq_true rfl) dBe_typed_39 (fun H locs hP hS => ?_)
    refine lv_iconst (v := 0) hx hb dBe_typed_42 (by decide) ?_
    refine lv_lconst (v := 0) hx hb dBe_typed_43 rfl ?_
    refine lv_iconst (v := 0) hx hb dBe_typed_44 (by decide) ?_
    obtain ⟨r8, σ7, h6, h⟩ := bn_some h
    refine q_cVl (rest := []) (As := [.ref (ad g (cP i4)), .int (0 : Int32), .long (0 : Int64), .int (0 : Int32)]) cx hP hS hRk (C_Tg_typeTerm l g hg 13 hi4 h6) Y_Tg_typeTerm V_Tg_typeTerm t_410 (by decide) (by decide) (e_3 g _ _) rfl rfl hl.1 rfl (Nat.le_of_ble_eq_true rfl) dBe_typed_45 (fun H locs hP hS => ?_)
    refine lv_pop2_2 hx hb dBe_typed_48 rfl ?_
    exact J49 _ h _ _ _ (lv_sub hl [0] rfl) hP hS
theorem dBe_mark_0 : decode cBe_mark 0 = .ok (.aload_n 0, 1) := by decide +kernel
theorem dBe_mark_1 : decode cBe_mark 1 = .ok (.invokevirtual 112, 3) := by decide +kernel
theorem dBe_mark_4 : decode cBe_mark 4 = .ok (.getfield 116, 3) := by decide +kernel
theorem dBe_mark_7 : decode cBe_mark 7 = .ok (.aload_n 0, 1) := by decide +kernel
theorem dBe_mark_8 : decode cBe_mark 8 = .ok (.getfield 10, 3) := by decide +kernel
theorem dBe_mark_11 : decode cBe_mark 11 = .ok (.invokevirtual 53, 3) := by decide +kernel
theorem dBe_mark_14 : decode cBe_mark 14 = .ok (.getfield 69, 3) := by decide +kernel
theorem dBe_mark_17 : decode cBe_mark 17 = .ok (.iaload, 1) := by decide +kernel
theorem dBe_mark_18 : decode cBe_mark 18 = .ok (.ireturn, 1) := by decide +kernel
def f_Be_mark   (σ : Mem) : Option (Int32 × Mem) :=
  bn (f_Be_typed σ) fun (_ : Nat) (σ2 : Mem) =>
  bn (f_Hi_present σ2) fun (i5 : Nat) (σ4 : Mem) =>
  gd (decide (i5 < 17)) (
  gd (inb (σ4.1 (cP i5) 5) 40) (
  some (σ4.1 6 (σ4.1 (cP i5) 5).toNatClampNeg, σ4)))
set_option maxHeartbeats 4000000 in
set_option maxRecDepth 100000 in
theorem c_Be_mark (l : Launch) (g : Gw) (hg : wInj g) {r0 : Int32} {σ σ0 : Mem} (h : f_Be_mark σ = some (r0, σ0)) : KI l yBe_mark cBe_mark 1 (some .int) 72 g [.ref (ad g 0)] σ r0 σ0 := by
  refine q_met g hg (own := "TermBench") rfl rfl (Nat.le_of_ble_eq_true rfl) (fun p e s m args below meth c R Q cx hRk hr hQ H locs ls hP hS hl => ?_)
  have hx := cx.1
  have hb := cx.2.1
  have hown := cx.2.2.2.1
  have hts := cx.2.2.2.2.1
  have hl : lv_has ls 1 [(0, .ref (ad g 0))] := hl
  unfold f_Be_mark at h
  refine lv_aload_n hx hb dBe_mark_0 rfl (lv_at hl 0 rfl) ?_
  obtain ⟨rh1, σ2, h1, h⟩ := bn_some h
  refine q_cVr (rest := []) (As := []) cx hP hS hRk (c_Be_typed l g hg h1) Y_Be_typed V_Be_typed t_406 (by decide) (by decide) (e_0 g _ _) rfl rfl hl.1 rfl (Nat.le_of_ble_eq_true rfl) dBe_mark_1 (fun H locs hP hS => ?_)
  refine g_Tg_marks cx hP  t_94 dBe_mark_4 ?_
  refine lv_aload_n hx hb dBe_mark_7 rfl (lv_at hl 0 rfl) ?_
  refine g_Be_history cx hP  t_157 dBe_mark_8 ?_
  obtain ⟨i5, σ4, h3, h⟩ := bn_some h
  obtain ⟨b6, h⟩ := gd_some h
  have hi5 : i5 < 17 := of_decide_eq_true b6
  refine q_cVr (rest := [.ref (ad g 6)]) (As := []) cx hP hS hRk (c_Hi_present l g hg h3) Y_Hi_present V_Hi_present t_178 (by decide) (by decide) (e_1 g _ _) rfl rfl hl.1 rfl (Nat.le_of_ble_eq_true rfl) dBe_mark_11 (fun H locs hP hS => ?_)
  refine g_Pr_cursor cx hP hi5  t_50 dBe_mark_14 ?_
  obtain ⟨b7, h⟩ := gd_some h
  refine q_iald cx hP (by decide) (e_6 g) b7 dBe_mark_17 ?_
  exact q_ri cx hr rfl hP hS hQ h dBe_mark_18
theorem dBe_got_0 : decode cBe_got 0 = .ok (.aload_n 0, 1) := by decide +kernel
theorem dBe_got_1 : decode cBe_got 1 = .ok (.invokevirtual 112, 3) := by decide +kernel
theorem dBe_got_4 : decode cBe_got 4 = .ok (.getfield 119, 3) := by decide +kernel
theorem dBe_got_7 : decode cBe_got 7 = .ok (.aload_n 0, 1) := by decide +kernel
theorem dBe_got_8 : decode cBe_got 8 = .ok (.getfield 10, 3) := by decide +kernel
theorem dBe_got_11 : decode cBe_got 11 = .ok (.invokevirtual 53, 3) := by decide +kernel
theorem dBe_got_14 : decode cBe_got 14 = .ok (.getfield 69, 3) := by decide +kernel
theorem dBe_got_17 : decode cBe_got 17 = .ok (.laload, 1) := by decide +kernel
theorem dBe_got_18 : decode cBe_got 18 = .ok (.lreturn, 1) := by decide +kernel
def f_Be_got   (σ : Mem) : Option (Int64 × Mem) :=
  bn (f_Be_typed σ) fun (_ : Nat) (σ2 : Mem) =>
  bn (f_Hi_present σ2) fun (i5 : Nat) (σ4 : Mem) =>
  gd (decide (i5 < 17)) (
  gd (inb (σ4.1 (cP i5) 5) 40) (
  some (σ4.2 4 (σ4.1 (cP i5) 5).toNatClampNeg, σ4)))
set_option maxHeartbeats 4000000 in
set_option maxRecDepth 100000 in
theorem c_Be_got (l : Launch) (g : Gw) (hg : wInj g) {r0 : Int64} {σ σ0 : Mem} (h : f_Be_got σ = some (r0, σ0)) : KL l yBe_got cBe_got 1 (some .long) 72 g [.ref (ad g 0)] σ r0 σ0 := by
  refine q_met g hg (own := "TermBench") rfl rfl (Nat.le_of_ble_eq_true rfl) (fun p e s m args below meth c R Q cx hRk hr hQ H locs ls hP hS hl => ?_)
  have hx := cx.1
  have hb := cx.2.1
  have hown := cx.2.2.2.1
  have hts := cx.2.2.2.2.1
  have hl : lv_has ls 1 [(0, .ref (ad g 0))] := hl
  unfold f_Be_got at h
  refine lv_aload_n hx hb dBe_got_0 rfl (lv_at hl 0 rfl) ?_
  obtain ⟨rh1, σ2, h1, h⟩ := bn_some h
  refine q_cVr (rest := []) (As := []) cx hP hS hRk (c_Be_typed l g hg h1) Y_Be_typed V_Be_typed t_406 (by decide) (by decide) (e_0 g _ _) rfl rfl hl.1 rfl (Nat.le_of_ble_eq_true rfl) dBe_got_1 (fun H locs hP hS => ?_)
  refine g_Tg_gotTypes cx hP  t_90 dBe_got_4 ?_
  refine lv_aload_n hx hb dBe_got_7 rfl (lv_at hl 0 rfl) ?_
  refine g_Be_history cx hP  t_157 dBe_got_8 ?_
  obtain ⟨i5, σ4, h3, h⟩ := bn_some h
  obtain ⟨b6, h⟩ := gd_some h
  have hi5 : i5 < 17 := of_decide_eq_true b6
  refine q_cVr (rest := [.ref (ad g 4)]) (As := []) cx hP hS hRk (c_Hi_present l g hg h3) Y_Hi_present V_Hi_present t_178 (by decide) (by decide) (e_1 g _ _) rfl rfl hl.1 rfl (Nat.le_of_ble_eq_true rfl) dBe_got_11 (fun H locs hP hS => ?_)
  refine g_Pr_cursor cx hP hi5  t_50 dBe_got_14 ?_
  obtain ⟨b7, h⟩ := gd_some h
  refine q_lald cx hP (by decide) (e_4 g) b7 dBe_got_17 ?_
  exact q_rl cx hr hP hS hQ h dBe_got_18
theorem dBe_expected_0 : decode cBe_expected 0 = .ok (.aload_n 0, 1) := by decide +kernel
theorem dBe_expected_1 : decode cBe_expected 1 = .ok (.invokevirtual 112, 3) := by decide +kernel
theorem dBe_expected_4 : decode cBe_expected 4 = .ok (.getfield 123, 3) := by decide +kernel
theorem dBe_expected_7 : decode cBe_expected 7 = .ok (.aload_n 0, 1) := by decide +kernel
theorem dBe_expected_8 : decode cBe_expected 8 = .ok (.getfield 10, 3) := by decide +kernel
theorem dBe_expected_11 : decode cBe_expected 11 = .ok (.invokevirtual 53, 3) := by decide +kernel
theorem dBe_expected_14 : decode cBe_expected 14 = .ok (.getfield 69, 3) := by decide +kernel
theorem dBe_expected_17 : decode cBe_expected 17 = .ok (.laload, 1) := by decide +kernel
theorem dBe_expected_18 : decode cBe_expected 18 = .ok (.lreturn, 1) := by decide +kernel
def f_Be_expected   (σ : Mem) : Option (Int64 × Mem) :=
  bn (f_Be_typed σ) fun (_ : Nat) (σ2 : Mem) =>
  bn (f_Hi_present σ2) fun (i5 : Nat) (σ4 : Mem) =>
  gd (decide (i5 < 17)) (
  gd (inb (σ4.1 (cP i5) 5) 40) (
  some (σ4.2 5 (σ4.1 (cP i5) 5).toNatClampNeg, σ4)))
set_option maxHeartbeats 4000000 in
set_option maxRecDepth 100000 in
theorem c_Be_expected (l : Launch) (g : Gw) (hg : wInj g) {r0 : Int64} {σ σ0 : Mem} (h : f_Be_expected σ = some (r0, σ0)) : KL l yBe_expected cBe_expected 1 (some .long) 72 g [.ref (ad g 0)] σ r0 σ0 := by
  refine q_met g hg (own := "TermBench") rfl rfl (Nat.le_of_ble_eq_true rfl) (fun p e s m args below meth c R Q cx hRk hr hQ H locs ls hP hS hl => ?_)
  have hx := cx.1
  have hb := cx.2.1
  have hown := cx.2.2.2.1
  have hts := cx.2.2.2.2.1
  have hl : lv_has ls 1 [(0, .ref (ad g 0))] := hl
  unfold f_Be_expected at h
  refine lv_aload_n hx hb dBe_expected_0 rfl (lv_at hl 0 rfl) ?_
  obtain ⟨rh1, σ2, h1, h⟩ := bn_some h
  refine q_cVr (rest := []) (As := []) cx hP hS hRk (c_Be_typed l g hg h1) Y_Be_typed V_Be_typed t_406 (by decide) (by decide) (e_0 g _ _) rfl rfl hl.1 rfl (Nat.le_of_ble_eq_true rfl) dBe_expected_1 (fun H locs hP hS => ?_)
  refine g_Tg_expectedTypes cx hP  t_92 dBe_expected_4 ?_
  refine lv_aload_n hx hb dBe_expected_7 rfl (lv_at hl 0 rfl) ?_
  refine g_Be_history cx hP  t_157 dBe_expected_8 ?_
  obtain ⟨i5, σ4, h3, h⟩ := bn_some h
  obtain ⟨b6, h⟩ := gd_some h
  have hi5 : i5 < 17 := of_decide_eq_true b6
  refine q_cVr (rest := [.ref (ad g 5)]) (As := []) cx hP hS hRk (c_Hi_present l g hg h3) Y_Hi_present V_Hi_present t_178 (by decide) (by decide) (e_1 g _ _) rfl rfl hl.1 rfl (Nat.le_of_ble_eq_true rfl) dBe_expected_11 (fun H locs hP hS => ?_)
  refine g_Pr_cursor cx hP hi5  t_50 dBe_expected_14 ?_
  obtain ⟨b7, h⟩ := gd_some h
  refine q_lald cx hP (by decide) (e_5 g) b7 dBe_expected_17 ?_
  exact q_rl cx hr hP hS hQ h dBe_expected_18
theorem dBe_marks_0 : decode cBe_marks 0 = .ok (.aload_n 0, 1) := by decide +kernel
theorem dBe_marks_1 : decode cBe_marks 1 = .ok (.invokevirtual 112, 3) := by decide +kernel
theorem dBe_marks_4 : decode cBe_marks 4 = .ok (.aload_n 0, 1) := by decide +kernel
theorem dBe_marks_5 : decode cBe_marks 5 = .ok (.getfield 10, 3) := by decide +kernel
theorem dBe_marks_8 : decode cBe_marks 8 = .ok (.invokevirtual 53, 3) := by decide +kernel
theorem dBe_marks_11 : decode cBe_marks 11 = .ok (.getfield 126, 3) := by decide +kernel
theorem dBe_marks_14 : decode cBe_marks 14 = .ok (.invokevirtual 129, 3) := by decide +kernel
theorem dBe_marks_17 : decode cBe_marks 17 = .ok (.ireturn, 1) := by decide +kernel
def f_Be_marks   (σ : Mem) : Option (Int32 × Mem) :=
  bn (f_Be_typed σ) fun (_ : Nat) (σ2 : Mem) =>
  bn (f_Hi_present σ2) fun (i5 : Nat) (σ4 : Mem) =>
  gd (decide (i5 < 17)) (
  bn (f_Tg_countMarks (σ4.1 (cP i5) 4) σ4) fun (r9 : Int32) (σ8 : Mem) =>
  some (r9, σ8))
set_option maxHeartbeats 4000000 in
set_option maxRecDepth 100000 in
theorem c_Be_marks (l : Launch) (g : Gw) (hg : wInj g) {r0 : Int32} {σ σ0 : Mem} (h : f_Be_marks σ = some (r0, σ0)) : KI l yBe_marks cBe_marks 1 (some .int) 72 g [.ref (ad g 0)] σ r0 σ0 := by
  refine q_met g hg (own := "TermBench") rfl rfl (Nat.le_of_ble_eq_true rfl) (fun p e s m args below meth c R Q cx hRk hr hQ H locs ls hP hS hl => ?_)
  have hx := cx.1
  have hb := cx.2.1
  have hown := cx.2.2.2.1
  have hts := cx.2.2.2.2.1
  have hl : lv_has ls 1 [(0, .ref (ad g 0))] := hl
  unfold f_Be_marks at h
  refine lv_aload_n hx hb dBe_marks_0 rfl (lv_at hl 0 rfl) ?_
  obtain ⟨rh1, σ2, h1, h⟩ := bn_some h
  refine q_cVr (rest := []) (As := []) cx hP hS hRk (c_Be_typed l g hg h1) Y_Be_typed V_Be_typed t_406 (by decide) (by decide) (e_0 g _ _) rfl rfl hl.1 rfl (Nat.le_of_ble_eq_true rfl) dBe_marks_1 (fun H locs hP hS => ?_)
  refine lv_aload_n hx hb dBe_marks_4 rfl (lv_at hl 0 rfl) ?_
  refine g_Be_history cx hP  t_157 dBe_marks_5 ?_
  obtain ⟨i5, σ4, h3, h⟩ := bn_some h
  obtain ⟨b6, h⟩ := gd_some h
  have hi5 : i5 < 17 := of_decide_eq_true b6
  refine q_cVr (rest := [.ref (ad g 3)]) (As := []) cx hP hS hRk (c_Hi_present l g hg h3) Y_Hi_present V_Hi_present t_178 (by decide) (by decide) (e_1 g _ _) rfl rfl hl.1 rfl (Nat.le_of_ble_eq_true rfl) dBe_marks_8 (fun H locs hP hS => ?_)
  refine g_Pr_size cx hP hi5  t_47 dBe_marks_11 ?_
  obtain ⟨r9, σ8, h7, h⟩ := bn_some h
  refine q_cVi (rest := []) (As := [.int (σ4.1 (cP i5) 4)]) cx hP hS hRk (c_Tg_countMarks l g hg h7) Y_Tg_countMarks V_Tg_countMarks t_462 (by decide) (by decide) (e_3 g _ _) rfl rfl hl.1 rfl (Nat.le_of_ble_eq_true rfl) dBe_marks_14 (fun H locs hP hS => ?_)
  exact q_ri cx hr rfl hP hS hQ h dBe_marks_17
theorem dBe_terms_0 : decode cBe_terms 0 = .ok (.aload_n 0, 1) := by decide +kernel
theorem dBe_terms_1 : decode cBe_terms 1 = .ok (.getfield 10, 3) := by decide +kernel
theorem dBe_terms_4 : decode cBe_terms 4 = .ok (.invokevirtual 53, 3) := by decide +kernel
theorem dBe_terms_7 : decode cBe_terms 7 = .ok (.getfield 126, 3) := by decide +kernel
theorem dBe_terms_10 : decode cBe_terms 10 = .ok (.ireturn, 1) := by decide +kernel
def f_Be_terms   (σ : Mem) : Option (Int32 × Mem) :=
  bn (f_Hi_present σ) fun (i3 : Nat) (σ2 : Mem) =>
  gd (decide (i3 < 17)) (
  some (σ2.1 (cP i3) 4, σ2))
set_option maxHeartbeats 4000000 in
set_option maxRecDepth 100000 in
theorem c_Be_terms (l : Launch) (g : Gw) (hg : wInj g) {r0 : Int32} {σ σ0 : Mem} (h : f_Be_terms σ = some (r0, σ0)) : KI l yBe_terms cBe_terms 1 (some .int) 1 g [.ref (ad g 0)] σ r0 σ0 := by
  refine q_met g hg (own := "TermBench") rfl rfl (Nat.le_of_ble_eq_true rfl) (fun p e s m args below meth c R Q cx hRk hr hQ H locs ls hP hS hl => ?_)
  have hx := cx.1
  have hb := cx.2.1
  have hown := cx.2.2.2.1
  have hts := cx.2.2.2.2.1
  have hl : lv_has ls 1 [(0, .ref (ad g 0))] := hl
  unfold f_Be_terms at h
  refine lv_aload_n hx hb dBe_terms_0 rfl (lv_at hl 0 rfl) ?_
  refine g_Be_history cx hP  t_157 dBe_terms_1 ?_
  obtain ⟨i3, σ2, h1, h⟩ := bn_some h
  obtain ⟨b4, h⟩ := gd_some h
  have hi3 : i3 < 17 := of_decide_eq_true b4
  refine q_cVr (rest := []) (As := []) cx hP hS hRk (c_Hi_present l g hg h1) Y_Hi_present V_Hi_present t_178 (by decide) (by decide) (e_1 g _ _) rfl rfl hl.1 rfl (Nat.le_of_ble_eq_true rfl) dBe_terms_4 (fun H locs hP hS => ?_)
  refine g_Pr_size cx hP hi3  t_47 dBe_terms_7 ?_
  exact q_ri cx hr rfl hP hS hQ h dBe_terms_10
theorem dBe_text_0 : decode cBe_text 0 = .ok (.aload_n 0, 1) := by decide +kernel
theorem dBe_text_1 : decode cBe_text 1 = .ok (.invokevirtual 93, 3) := by decide +kernel
theorem dBe_text_4 : decode cBe_text 4 = .ok (.iload_n 1, 1) := by decide +kernel
theorem dBe_text_5 : decode cBe_text 5 = .ok (.invokevirtual 132, 3) := by decide +kernel
theorem dBe_text_8 : decode cBe_text 8 = .ok (.lreturn, 1) := by decide +kernel
def f_Be_text  (v1 : Int32) (σ : Mem) : Option (Int64 × Mem) :=
  bn (f_Be_written σ) fun (_ : Nat) (σ2 : Mem) =>
  bn (f_Pa_eightOf v1 σ2) fun (r5 : Int64) (σ4 : Mem) =>
  some (r5, σ4)
set_option maxHeartbeats 4000000 in
set_option maxRecDepth 100000 in
theorem c_Be_text (l : Launch) (g : Gw) (hg : wInj g) {v1 : Int32} {r0 : Int64} {σ σ0 : Mem} (h : f_Be_text v1 σ = some (r0, σ0)) : KL l yBe_text cBe_text 2 (some .long) 59 g [.ref (ad g 0), .int v1] σ r0 σ0 := by
  refine q_met g hg (own := "TermBench") rfl rfl (Nat.le_of_ble_eq_true rfl) (fun p e s m args below meth c R Q cx hRk hr hQ H locs ls hP hS hl => ?_)
  have hx := cx.1
  have hb := cx.2.1
  have hown := cx.2.2.2.1
  have hts := cx.2.2.2.2.1
  have hl : lv_has ls 2 [(0, .ref (ad g 0)), (1, .int v1)] := hl
  unfold f_Be_text at h
  refine lv_aload_n hx hb dBe_text_0 rfl (lv_at hl 0 rfl) ?_
  obtain ⟨rh1, σ2, h1, h⟩ := bn_some h
  refine q_cVr (rest := []) (As := []) cx hP hS hRk (c_Be_written l g hg h1) Y_Be_written V_Be_written t_331 (by decide) (by decide) (e_0 g _ _) rfl rfl hl.1 rfl (Nat.le_of_ble_eq_true rfl) dBe_text_1 (fun H locs hP hS => ?_)
  refine lv_iload_n hx hb dBe_text_4 rfl (lv_at hl 1 rfl) ?_
  obtain ⟨r5, σ4, h3, h⟩ := bn_some h
  refine q_cVl (rest := []) (As := [.int v1]) cx hP hS hRk (c_Pa_eightOf l g hg h3) Y_Pa_eightOf V_Pa_eightOf t_474 (by decide) (by decide) (e_7 g _ _) rfl rfl hl.1 rfl (Nat.le_of_ble_eq_true rfl) dBe_text_5 (fun H locs hP hS => ?_)
  exact q_rl cx hr hP hS hQ h dBe_text_8
theorem dBe_run_0 : decode cBe_run 0 = .ok (.aload_n 0, 1) := by decide +kernel
theorem dBe_run_1 : decode cBe_run 1 = .ok (.getfield 33, 3) := by decide +kernel
theorem dBe_run_4 : decode cBe_run 4 = .ok (.aload_n 0, 1) := by decide +kernel
theorem dBe_run_5 : decode cBe_run 5 = .ok (.getfield 10, 3) := by decide +kernel
theorem dBe_run_8 : decode cBe_run 8 = .ok (.invokevirtual 53, 3) := by decide +kernel
theorem dBe_run_11 : decode cBe_run 11 = .ok (.aload_n 0, 1) := by decide +kernel
theorem dBe_run_12 : decode cBe_run 12 = .ok (.invokevirtual 112, 3) := by decide +kernel
theorem dBe_run_15 : decode cBe_run 15 = .ok (.getfield 116, 3) := by decide +kernel
theorem dBe_run_18 : decode cBe_run 18 = .ok (.invokevirtual 136, 3) := by decide +kernel
theorem dBe_run_21 : decode cBe_run 21 = .ok (.ireturn, 1) := by decide +kernel
def f_Be_run   (σ : Mem) : Option (Int32 × Mem) :=
  bn (f_Hi_present σ) fun (i3 : Nat) (σ2 : Mem) =>
  gd (decide (i3 < 17)) (
  bn (f_Be_typed σ2) fun (_ : Nat) (σ6 : Mem) =>
  bn (f_Ma_start i3 σ6) fun (r9 : Int32) (σ8 : Mem) =>
  some (r9, σ8))
set_option maxHeartbeats 4000000 in
set_option maxRecDepth 100000 in
theorem c_Be_run (l : Launch) (g : Gw) (hg : wInj g) {r0 : Int32} {σ σ0 : Mem} (h : f_Be_run σ = some (r0, σ0)) : KI l yBe_run cBe_run 1 (some .int) 126 g [.ref (ad g 0)] σ r0 σ0 := by
  refine q_met g hg (own := "TermBench") rfl rfl (Nat.le_of_ble_eq_true rfl) (fun p e s m args below meth c R Q cx hRk hr hQ H locs ls hP hS hl => ?_)
  have hx := cx.1
  have hb := cx.2.1
  have hown := cx.2.2.2.1
  have hts := cx.2.2.2.2.1
  have hl : lv_has ls 1 [(0, .ref (ad g 0))] := hl
  unfold f_Be_run at h
  refine lv_aload_n hx hb dBe_run_0 rfl (lv_at hl 0 rfl) ?_
  refine g_Be_machine cx hP  t_160 dBe_run_1 ?_
  refine lv_aload_n hx hb dBe_run_4 rfl (lv_at hl 0 rfl) ?_
  refine g_Be_history cx hP  t_157 dBe_run_5 ?_
  obtain ⟨i3, σ2, h1, h⟩ := bn_some h
  obtain ⟨b4, h⟩ := gd_some h
  have hi3 : i3 < 17 := of_decide_eq_true b4
  refine q_cVr (rest := [.ref (ad g 11)]) (As := []) cx hP hS hRk (c_Hi_present l g hg h1) Y_Hi_present V_Hi_present t_178 (by decide) (by decide) (e_1 g _ _) rfl rfl hl.1 rfl (Nat.le_of_ble_eq_true rfl) dBe_run_8 (fun H locs hP hS => ?_)
  refine lv_aload_n hx hb dBe_run_11 rfl (lv_at hl 0 rfl) ?_
  obtain ⟨rh5, σ6, h5, h⟩ := bn_some h
  refine q_cVr (rest := [.ref (ad g (cP i3)), .ref (ad g 11)]) (As := []) cx hP hS hRk (c_Be_typed l g hg h5) Y_Be_typed V_Be_typed t_406 (by decide) (by decide) (e_0 g _ _) rfl rfl hl.1 rfl (Nat.le_of_ble_eq_true rfl) dBe_run_12 (fun H locs hP hS => ?_)
  refine g_Tg_marks cx hP  t_94 dBe_run_15 ?_
  obtain ⟨r9, σ8, h7, h⟩ := bn_some h
  refine q_cVi (rest := []) (As := [.ref (ad g (cP i3)), .ref (ad g 6)]) cx hP hS hRk (c_Ma_start l g hg hi3 h7) Y_Ma_start V_Ma_start t_482 (by decide) (by decide) (e_11 g _ _) rfl rfl hl.1 rfl (Nat.le_of_ble_eq_true rfl) dBe_run_18 (fun H locs hP hS => ?_)
  exact q_ri cx hr rfl hP hS hQ h dBe_run_21
theorem dBe_result_0 : decode cBe_result 0 = .ok (.aload_n 0, 1) := by decide +kernel
theorem dBe_result_1 : decode cBe_result 1 = .ok (.getfield 33, 3) := by decide +kernel
theorem dBe_result_4 : decode cBe_result 4 = .ok (.getfield 140, 3) := by decide +kernel
theorem dBe_result_7 : decode cBe_result 7 = .ok (.ireturn, 1) := by decide +kernel
def f_Be_result   (σ : Mem) : Option (Int32 × Mem) :=
  some (σ.1 11 5, σ)
set_option maxHeartbeats 4000000 in
set_option maxRecDepth 100000 in
theorem c_Be_result (l : Launch) (g : Gw) (hg : wInj g) {r0 : Int32} {σ σ0 : Mem} (h : f_Be_result σ = some (r0, σ0)) : KI l yBe_result cBe_result 1 (some .int) 0 g [.ref (ad g 0)] σ r0 σ0 := by
  refine q_met g hg (own := "TermBench") rfl rfl (Nat.le_of_ble_eq_true rfl) (fun p e s m args below meth c R Q cx hRk hr hQ H locs ls hP hS hl => ?_)
  have hx := cx.1
  have hb := cx.2.1
  have hown := cx.2.2.2.1
  have hts := cx.2.2.2.2.1
  have hl : lv_has ls 1 [(0, .ref (ad g 0))] := hl
  unfold f_Be_result at h
  refine lv_aload_n hx hb dBe_result_0 rfl (lv_at hl 0 rfl) ?_
  refine g_Be_machine cx hP  t_160 dBe_result_1 ?_
  refine g_Ma_number cx hP  t_143 dBe_result_4 ?_
  exact q_ri cx hr rfl hP hS hQ h dBe_result_7
theorem dBe_units_0 : decode cBe_units 0 = .ok (.aload_n 0, 1) := by decide +kernel
theorem dBe_units_1 : decode cBe_units 1 = .ok (.getfield 33, 3) := by decide +kernel
theorem dBe_units_4 : decode cBe_units 4 = .ok (.getfield 143, 3) := by decide +kernel
theorem dBe_units_7 : decode cBe_units 7 = .ok (.ireturn, 1) := by decide +kernel
def f_Be_units   (σ : Mem) : Option (Int32 × Mem) :=
  some (σ.1 11 4, σ)
set_option maxHeartbeats 4000000 in
set_option maxRecDepth 100000 in
theorem c_Be_units (l : Launch) (g : Gw) (hg : wInj g) {r0 : Int32} {σ σ0 : Mem} (h : f_Be_units σ = some (r0, σ0)) : KI l yBe_units cBe_units 1 (some .int) 0 g [.ref (ad g 0)] σ r0 σ0 := by
  refine q_met g hg (own := "TermBench") rfl rfl (Nat.le_of_ble_eq_true rfl) (fun p e s m args below meth c R Q cx hRk hr hQ H locs ls hP hS hl => ?_)
  have hx := cx.1
  have hb := cx.2.1
  have hown := cx.2.2.2.1
  have hts := cx.2.2.2.2.1
  have hl : lv_has ls 1 [(0, .ref (ad g 0))] := hl
  unfold f_Be_units at h
  refine lv_aload_n hx hb dBe_units_0 rfl (lv_at hl 0 rfl) ?_
  refine g_Be_machine cx hP  t_160 dBe_units_1 ?_
  refine g_Ma_units cx hP  t_141 dBe_units_4 ?_
  exact q_ri cx hr rfl hP hS hQ h dBe_units_7
