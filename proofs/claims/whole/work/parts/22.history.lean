/-! 22.history, by program: pure functions and contracts -/
theorem dHi_present_0 : decode cHi_present 0 = .ok (.aload_n 0, 1) := by decide +kernel
theorem dHi_present_1 : decode cHi_present 1 = .ok (.getfield 13, 3) := by decide +kernel
theorem dHi_present_4 : decode cHi_present 4 = .ok (.aload_n 0, 1) := by decide +kernel
theorem dHi_present_5 : decode cHi_present 5 = .ok (.getfield 17, 3) := by decide +kernel
theorem dHi_present_8 : decode cHi_present 8 = .ok (.aaload, 1) := by decide +kernel
theorem dHi_present_9 : decode cHi_present 9 = .ok (.areturn, 1) := by decide +kernel
def f_Hi_present   (σ : Mem) : Option (Nat × Mem) :=
  gd (inb (σ.1 1 1) 17) (lt_ (σ.1 1 1).toNatClampNeg fun (i2 : Nat) =>
  some (i2, σ))
set_option maxHeartbeats 4000000 in
set_option maxRecDepth 100000 in
theorem c_Hi_present (l : Launch) (g : Gw) (hg : wInj g) {r0 : Nat} {σ σ0 : Mem} (h : f_Hi_present σ = some (r0, σ0)) : KR l yHi_present cHi_present 1 (some (.object "TermBench$Program")) 0 g [.ref (ad g 1)] σ (cP r0) σ0 := by
  refine q_met g hg (own := "TermBench$History") rfl rfl (Nat.le_of_ble_eq_true rfl) (fun p e s m args below meth c R Q cx hRk hr hQ H locs ls hP hS hl => ?_)
  have hx := cx.1
  have hb := cx.2.1
  have hown := cx.2.2.2.1
  have hts := cx.2.2.2.2.1
  have hl : lv_has ls 1 [(0, .ref (ad g 1))] := hl
  unfold f_Hi_present at h
  refine lv_aload_n hx hb dHi_present_0 rfl (lv_at hl 0 rfl) ?_
  refine g_Hi_ring cx hP  t_66 dHi_present_1 ?_
  refine lv_aload_n hx hb dHi_present_4 rfl (lv_at hl 0 rfl) ?_
  refine g_Hi_place cx hP  t_67 dHi_present_5 ?_
  obtain ⟨b1, h⟩ := gd_some h
  obtain ⟨i2, ei2, h⟩ := lt_some h
  have hi2 : i2 < 17 := by rw [ei2]; exact inb_lt b1
  refine q_aald (b := ad g (cP i2)) cx hP (by decide) (e_2 g) b1 (by rw [← ei2]; exact if_pos hi2) dHi_present_8 ?_
  exact q_rr cx hr hP hS hQ (q_rP h) dHi_present_9
theorem dHi_keep_0 : decode cHi_keep 0 = .ok (.aload_n 0, 1) := by decide +kernel
theorem dHi_keep_1 : decode cHi_keep 1 = .ok (.invokevirtual 31, 3) := by decide +kernel
theorem dHi_keep_4 : decode cHi_keep 4 = .ok (.astore_n 1, 1) := by decide +kernel
theorem dHi_keep_5 : decode cHi_keep 5 = .ok (.aload_n 0, 1) := by decide +kernel
theorem dHi_keep_6 : decode cHi_keep 6 = .ok (.aload_n 0, 1) := by decide +kernel
theorem dHi_keep_7 : decode cHi_keep 7 = .ok (.getfield 17, 3) := by decide +kernel
theorem dHi_keep_10 : decode cHi_keep 10 = .ok (.iconst 1, 1) := by decide +kernel
theorem dHi_keep_11 : decode cHi_keep 11 = .ok (.iadd, 1) := by decide +kernel
theorem dHi_keep_12 : decode cHi_keep 12 = .ok (.bipush 17, 2) := by decide +kernel
theorem dHi_keep_14 : decode cHi_keep 14 = .ok (.irem, 1) := by decide +kernel
theorem dHi_keep_15 : decode cHi_keep 15 = .ok (.putfield 17, 3) := by decide +kernel
theorem dHi_keep_18 : decode cHi_keep 18 = .ok (.aload_n 0, 1) := by decide +kernel
theorem dHi_keep_19 : decode cHi_keep 19 = .ok (.aload_n 0, 1) := by decide +kernel
theorem dHi_keep_20 : decode cHi_keep 20 = .ok (.getfield 21, 3) := by decide +kernel
theorem dHi_keep_23 : decode cHi_keep 23 = .ok (.iconst 1, 1) := by decide +kernel
theorem dHi_keep_24 : decode cHi_keep 24 = .ok (.iadd, 1) := by decide +kernel
theorem dHi_keep_25 : decode cHi_keep 25 = .ok (.bipush 16, 2) := by decide +kernel
theorem dHi_keep_27 : decode cHi_keep 27 = .ok (.invokestatic 35, 3) := by decide +kernel
theorem dHi_keep_30 : decode cHi_keep 30 = .ok (.putfield 21, 3) := by decide +kernel
theorem dHi_keep_33 : decode cHi_keep 33 = .ok (.aload_n 0, 1) := by decide +kernel
theorem dHi_keep_34 : decode cHi_keep 34 = .ok (.iconst 0, 1) := by decide +kernel
theorem dHi_keep_35 : decode cHi_keep 35 = .ok (.putfield 24, 3) := by decide +kernel
theorem dHi_keep_38 : decode cHi_keep 38 = .ok (.aload_n 0, 1) := by decide +kernel
theorem dHi_keep_39 : decode cHi_keep 39 = .ok (.dup, 1) := by decide +kernel
theorem dHi_keep_40 : decode cHi_keep 40 = .ok (.getfield 27, 3) := by decide +kernel
theorem dHi_keep_43 : decode cHi_keep 43 = .ok (.iconst 1, 1) := by decide +kernel
theorem dHi_keep_44 : decode cHi_keep 44 = .ok (.iadd, 1) := by decide +kernel
theorem dHi_keep_45 : decode cHi_keep 45 = .ok (.putfield 27, 3) := by decide +kernel
theorem dHi_keep_48 : decode cHi_keep 48 = .ok (.aload_n 0, 1) := by decide +kernel
theorem dHi_keep_49 : decode cHi_keep 49 = .ok (.invokevirtual 31, 3) := by decide +kernel
theorem dHi_keep_52 : decode cHi_keep 52 = .ok (.aload_n 1, 1) := by decide +kernel
theorem dHi_keep_53 : decode cHi_keep 53 = .ok (.invokevirtual 41, 3) := by decide +kernel
theorem dHi_keep_56 : decode cHi_keep 56 = .ok (.aload_n 0, 1) := by decide +kernel
theorem dHi_keep_57 : decode cHi_keep 57 = .ok (.invokevirtual 31, 3) := by decide +kernel
theorem dHi_keep_60 : decode cHi_keep 60 = .ok (.areturn, 1) := by decide +kernel
def f_Hi_keep   (σ : Mem) : Option (Nat × Mem) :=
  bn (f_Hi_present σ) fun (i3 : Nat) (σ2 : Mem) =>
  gd (decide (i3 < 17)) (
  lt_ (sI σ2 1 1 (((σ2.1 1 1) + (1 : Int32)) - ((σ2.1 1 1) + (1 : Int32)) / (17 : Int32) * (17 : Int32))) fun (σ5 : Mem) =>
  lt_ (sI σ5 1 2 (if (16 : Int32) < ((σ5.1 1 2) + (1 : Int32)) then (16 : Int32) else ((σ5.1 1 2) + (1 : Int32)))) fun (σ6 : Mem) =>
  lt_ (sI σ6 1 3 (0 : Int32)) fun (σ7 : Mem) =>
  lt_ (sI σ7 1 4 ((σ7.1 1 4) + (1 : Int32))) fun (σ8 : Mem) =>
  bn (f_Hi_present σ8) fun (i11 : Nat) (σ10 : Mem) =>
  gd (decide (i11 < 17)) (
  bn (f_Pr_copy i11 i3 σ10) fun (_ : Unit) (σ14 : Mem) =>
  bn (f_Hi_present σ14) fun (i17 : Nat) (σ16 : Mem) =>
  gd (decide (i17 < 17)) (
  some (i17, σ16))))
set_option maxHeartbeats 4000000 in
set_option maxRecDepth 100000 in
theorem c_Hi_keep (l : Launch) (g : Gw) (hg : wInj g) {r0 : Nat} {σ σ0 : Mem} (h : f_Hi_keep σ = some (r0, σ0)) : KR l yHi_keep cHi_keep 2 (some (.object "TermBench$Program")) 2 g [.ref (ad g 1)] σ (cP r0) σ0 := by
  refine q_met g hg (own := "TermBench$History") rfl rfl (Nat.le_of_ble_eq_true rfl) (fun p e s m args below meth c R Q cx hRk hr hQ H locs ls hP hS hl => ?_)
  have hx := cx.1
  have hb := cx.2.1
  have hown := cx.2.2.2.1
  have hts := cx.2.2.2.2.1
  have hl : lv_has ls 2 [(0, .ref (ad g 1))] := hl
  unfold f_Hi_keep at h
  refine lv_aload_n hx hb dHi_keep_0 rfl (lv_at hl 0 rfl) ?_
  obtain ⟨i3, σ2, h1, h⟩ := bn_some h
  obtain ⟨b4, h⟩ := gd_some h
  have hi3 : i3 < 17 := of_decide_eq_true b4
  refine q_cVr (rest := []) (As := []) cx hP hS hRk (c_Hi_present l g hg h1) Y_Hi_present V_Hi_present t_190 (by decide) (by decide) (e_1 g _ _) rfl rfl hl.1 rfl (Nat.le_of_ble_eq_true rfl) dHi_keep_1 (fun H locs hP hS => ?_)
  refine lv_astore_n (lv' := [(1, .ref (ad g (cP i3))), (0, .ref (ad g 1))]) hx hb dHi_keep_4 rfl hl (Nat.le_of_ble_eq_true rfl) rfl (fun ls hl => ?_)
  refine lv_aload_n hx hb dHi_keep_5 rfl (lv_at hl 1 rfl) ?_
  refine lv_aload_n hx hb dHi_keep_6 rfl (lv_at hl 1 rfl) ?_
  refine g_Hi_place cx hP  t_67 dHi_keep_7 ?_
  refine lv_iconst (v := 1) hx hb dHi_keep_10 (by decide) ?_
  refine lv_iadd hx hb dHi_keep_11 ?_
  refine lv_bipush (v := 17) hx hb dHi_keep_12 (by decide) ?_
  refine lv_irem hx hb dHi_keep_14 (by decide) ?_
  obtain ⟨σ5, eσ5, h⟩ := lt_some h
  refine p_Hi_place cx hP hS t_67 dHi_keep_15 eσ5 (fun H locs hP hS => ?_)
  refine lv_aload_n hx hb dHi_keep_18 rfl (lv_at hl 1 rfl) ?_
  refine lv_aload_n hx hb dHi_keep_19 rfl (lv_at hl 1 rfl) ?_
  refine g_Hi_kept cx hP  t_68 dHi_keep_20 ?_
  refine lv_iconst (v := 1) hx hb dHi_keep_23 (by decide) ?_
  refine lv_iadd hx hb dHi_keep_24 ?_
  refine lv_bipush (v := 16) hx hb dHi_keep_25 (by decide) ?_
  refine q_min cx hRk t_191 N_min (by omega) hl.1 (Nat.le_of_ble_eq_true rfl) dHi_keep_27 ?_
  obtain ⟨σ6, eσ6, h⟩ := lt_some h
  refine p_Hi_kept cx hP hS t_68 dHi_keep_30 eσ6 (fun H locs hP hS => ?_)
  refine lv_aload_n hx hb dHi_keep_33 rfl (lv_at hl 1 rfl) ?_
  refine lv_iconst (v := 0) hx hb dHi_keep_34 (by decide) ?_
  obtain ⟨σ7, eσ7, h⟩ := lt_some h
  refine p_Hi_putBy cx hP hS t_69 dHi_keep_35 eσ7 (fun H locs hP hS => ?_)
  refine lv_aload_n hx hb dHi_keep_38 rfl (lv_at hl 1 rfl) ?_
  refine lv_dup hx hb dHi_keep_39 rfl ?_
  refine g_Hi_change cx hP  t_70 dHi_keep_40 ?_
  refine lv_iconst (v := 1) hx hb dHi_keep_43 (by decide) ?_
  refine lv_iadd hx hb dHi_keep_44 ?_
  obtain ⟨σ8, eσ8, h⟩ := lt_some h
  refine p_Hi_change cx hP hS t_70 dHi_keep_45 eσ8 (fun H locs hP hS => ?_)
  refine lv_aload_n hx hb dHi_keep_48 rfl (lv_at hl 1 rfl) ?_
  obtain ⟨i11, σ10, h9, h⟩ := bn_some h
  obtain ⟨b12, h⟩ := gd_some h
  have hi11 : i11 < 17 := of_decide_eq_true b12
  refine q_cVr (rest := []) (As := []) cx hP hS hRk (c_Hi_present l g hg h9) Y_Hi_present V_Hi_present t_190 (by decide) (by decide) (e_1 g _ _) rfl rfl hl.1 rfl (Nat.le_of_ble_eq_true rfl) dHi_keep_49 (fun H locs hP hS => ?_)
  refine lv_aload_n hx hb dHi_keep_52 rfl (lv_at hl 0 rfl) ?_
  obtain ⟨rh13, σ14, h13, h⟩ := bn_some h
  refine q_cVv (rest := []) (As := [.ref (ad g (cP i3))]) cx hP hS hRk (c_Pr_copy l g hg hi11 hi3 h13) Y_Pr_copy V_Pr_copy t_194 (by decide) (l_cP hi11) (e_cP g hi11 _ _) rfl rfl hl.1 rfl (Nat.le_of_ble_eq_true rfl) dHi_keep_53 (fun H locs hP hS => ?_)
  refine lv_aload_n hx hb dHi_keep_56 rfl (lv_at hl 1 rfl) ?_
  obtain ⟨i17, σ16, h15, h⟩ := bn_some h
  obtain ⟨b18, h⟩ := gd_some h
  have hi17 : i17 < 17 := of_decide_eq_true b18
  refine q_cVr (rest := []) (As := []) cx hP hS hRk (c_Hi_present l g hg h15) Y_Hi_present V_Hi_present t_190 (by decide) (by decide) (e_1 g _ _) rfl rfl hl.1 rfl (Nat.le_of_ble_eq_true rfl) dHi_keep_57 (fun H locs hP hS => ?_)
  exact q_rr cx hr hP hS hQ (q_rP h) dHi_keep_60
theorem dHi_stepBack_0 : decode cHi_stepBack 0 = .ok (.aload_n 0, 1) := by decide +kernel
theorem dHi_stepBack_1 : decode cHi_stepBack 1 = .ok (.getfield 21, 3) := by decide +kernel
theorem dHi_stepBack_4 : decode cHi_stepBack 4 = .ok (.ifCond .ne 5, 3) := by decide +kernel
theorem dHi_stepBack_7 : decode cHi_stepBack 7 = .ok (.iconst 0, 1) := by decide +kernel
theorem dHi_stepBack_8 : decode cHi_stepBack 8 = .ok (.ireturn, 1) := by decide +kernel
theorem dHi_stepBack_9 : decode cHi_stepBack 9 = .ok (.aload_n 0, 1) := by decide +kernel
theorem dHi_stepBack_10 : decode cHi_stepBack 10 = .ok (.aload_n 0, 1) := by decide +kernel
theorem dHi_stepBack_11 : decode cHi_stepBack 11 = .ok (.getfield 17, 3) := by decide +kernel
theorem dHi_stepBack_14 : decode cHi_stepBack 14 = .ok (.bipush 17, 2) := by decide +kernel
theorem dHi_stepBack_16 : decode cHi_stepBack 16 = .ok (.iadd, 1) := by decide +kernel
theorem dHi_stepBack_17 : decode cHi_stepBack 17 = .ok (.iconst 1, 1) := by decide +kernel
theorem dHi_stepBack_18 : decode cHi_stepBack 18 = .ok (.isub, 1) := by decide +kernel
theorem dHi_stepBack_19 : decode cHi_stepBack 19 = .ok (.bipush 17, 2) := by decide +kernel
theorem dHi_stepBack_21 : decode cHi_stepBack 21 = .ok (.irem, 1) := by decide +kernel
theorem dHi_stepBack_22 : decode cHi_stepBack 22 = .ok (.putfield 17, 3) := by decide +kernel
theorem dHi_stepBack_25 : decode cHi_stepBack 25 = .ok (.aload_n 0, 1) := by decide +kernel
theorem dHi_stepBack_26 : decode cHi_stepBack 26 = .ok (.dup, 1) := by decide +kernel
theorem dHi_stepBack_27 : decode cHi_stepBack 27 = .ok (.getfield 21, 3) := by decide +kernel
theorem dHi_stepBack_30 : decode cHi_stepBack 30 = .ok (.iconst 1, 1) := by decide +kernel
theorem dHi_stepBack_31 : decode cHi_stepBack 31 = .ok (.isub, 1) := by decide +kernel
theorem dHi_stepBack_32 : decode cHi_stepBack 32 = .ok (.putfield 21, 3) := by decide +kernel
theorem dHi_stepBack_35 : decode cHi_stepBack 35 = .ok (.aload_n 0, 1) := by decide +kernel
theorem dHi_stepBack_36 : decode cHi_stepBack 36 = .ok (.dup, 1) := by decide +kernel
theorem dHi_stepBack_37 : decode cHi_stepBack 37 = .ok (.getfield 24, 3) := by decide +kernel
theorem dHi_stepBack_40 : decode cHi_stepBack 40 = .ok (.iconst 1, 1) := by decide +kernel
theorem dHi_stepBack_41 : decode cHi_stepBack 41 = .ok (.iadd, 1) := by decide +kernel
theorem dHi_stepBack_42 : decode cHi_stepBack 42 = .ok (.putfield 24, 3) := by decide +kernel
theorem dHi_stepBack_45 : decode cHi_stepBack 45 = .ok (.aload_n 0, 1) := by decide +kernel
theorem dHi_stepBack_46 : decode cHi_stepBack 46 = .ok (.dup, 1) := by decide +kernel
theorem dHi_stepBack_47 : decode cHi_stepBack 47 = .ok (.getfield 27, 3) := by decide +kernel
theorem dHi_stepBack_50 : decode cHi_stepBack 50 = .ok (.iconst 1, 1) := by decide +kernel
theorem dHi_stepBack_51 : decode cHi_stepBack 51 = .ok (.iadd, 1) := by decide +kernel
theorem dHi_stepBack_52 : decode cHi_stepBack 52 = .ok (.putfield 27, 3) := by decide +kernel
theorem dHi_stepBack_55 : decode cHi_stepBack 55 = .ok (.iconst 1, 1) := by decide +kernel
theorem dHi_stepBack_56 : decode cHi_stepBack 56 = .ok (.ireturn, 1) := by decide +kernel
def f_Hi_stepBack   (σ : Mem) : Option (Int32 × Mem) :=
  if (σ.1 1 2) = 0 then (
  some ((0 : Int32), σ))
  else (
  lt_ (sI σ 1 1 ((((σ.1 1 1) + (17 : Int32)) - (1 : Int32)) - (((σ.1 1 1) + (17 : Int32)) - (1 : Int32)) / (17 : Int32) * (17 : Int32))) fun (σ1 : Mem) =>
  lt_ (sI σ1 1 2 ((σ1.1 1 2) - (1 : Int32))) fun (σ2 : Mem) =>
  lt_ (sI σ2 1 3 ((σ2.1 1 3) + (1 : Int32))) fun (σ3 : Mem) =>
  lt_ (sI σ3 1 4 ((σ3.1 1 4) + (1 : Int32))) fun (σ4 : Mem) =>
  some ((1 : Int32), σ4))
set_option maxHeartbeats 4000000 in
set_option maxRecDepth 100000 in
theorem c_Hi_stepBack (l : Launch) (g : Gw) (hg : wInj g) {r0 : Int32} {σ σ0 : Mem} (h : f_Hi_stepBack σ = some (r0, σ0)) : KI l yHi_stepBack cHi_stepBack 1 (some .boolean) 0 g [.ref (ad g 1)] σ r0 σ0 := by
  refine q_met g hg (own := "TermBench$History") rfl rfl (Nat.le_of_ble_eq_true rfl) (fun p e s m args below meth c R Q cx hRk hr hQ H locs ls hP hS hl => ?_)
  have hx := cx.1
  have hb := cx.2.1
  have hown := cx.2.2.2.1
  have hts := cx.2.2.2.2.1
  have hl : lv_has ls 1 [(0, .ref (ad g 1))] := hl
  unfold f_Hi_stepBack at h
  refine lv_aload_n hx hb dHi_stepBack_0 rfl (lv_at hl 0 rfl) ?_
  refine g_Hi_kept cx hP  t_68 dHi_stepBack_1 ?_
  refine lv_if_ne (tgt := 9) hx hb dHi_stepBack_4 (by decide) (fun hc => ?_) (fun hc => ?_)
  · replace h := if_f h hc
    refine lv_aload_n hx hb dHi_stepBack_9 rfl (lv_at hl 0 rfl) ?_
    refine lv_aload_n hx hb dHi_stepBack_10 rfl (lv_at hl 0 rfl) ?_
    refine g_Hi_place cx hP  t_67 dHi_stepBack_11 ?_
    refine lv_bipush (v := 17) hx hb dHi_stepBack_14 (by decide) ?_
    refine lv_iadd hx hb dHi_stepBack_16 ?_
    refine lv_iconst (v := 1) hx hb dHi_stepBack_17 (by decide) ?_
    refine lv_isub hx hb dHi_stepBack_18 ?_
    refine lv_bipush (v := 17) hx hb dHi_stepBack_19 (by decide) ?_
    refine lv_irem hx hb dHi_stepBack_21 (by decide) ?_
    obtain ⟨σ1, eσ1, h⟩ := lt_some h
    refine p_Hi_place cx hP hS t_67 dHi_stepBack_22 eσ1 (fun H locs hP hS => ?_)
    refine lv_aload_n hx hb dHi_stepBack_25 rfl (lv_at hl 0 rfl) ?_
    refine lv_dup hx hb dHi_stepBack_26 rfl ?_
    refine g_Hi_kept cx hP  t_68 dHi_stepBack_27 ?_
    refine lv_iconst (v := 1) hx hb dHi_stepBack_30 (by decide) ?_
    refine lv_isub hx hb dHi_stepBack_31 ?_
    obtain ⟨σ2, eσ2, h⟩ := lt_some h
    refine p_Hi_kept cx hP hS t_68 dHi_stepBack_32 eσ2 (fun H locs hP hS => ?_)
    refine lv_aload_n hx hb dHi_stepBack_35 rfl (lv_at hl 0 rfl) ?_
    refine lv_dup hx hb dHi_stepBack_36 rfl ?_
    refine g_Hi_putBy cx hP  t_69 dHi_stepBack_37 ?_
    refine lv_iconst (v := 1) hx hb dHi_stepBack_40 (by decide) ?_
    refine lv_iadd hx hb dHi_stepBack_41 ?_
    obtain ⟨σ3, eσ3, h⟩ := lt_some h
    refine p_Hi_putBy cx hP hS t_69 dHi_stepBack_42 eσ3 (fun H locs hP hS => ?_)
    refine lv_aload_n hx hb dHi_stepBack_45 rfl (lv_at hl 0 rfl) ?_
    refine lv_dup hx hb dHi_stepBack_46 rfl ?_
    refine g_Hi_change cx hP  t_70 dHi_stepBack_47 ?_
    refine lv_iconst (v := 1) hx hb dHi_stepBack_50 (by decide) ?_
    refine lv_iadd hx hb dHi_stepBack_51 ?_
    obtain ⟨σ4, eσ4, h⟩ := lt_some h
    refine p_Hi_change cx hP hS t_70 dHi_stepBack_52 eσ4 (fun H locs hP hS => ?_)
    refine lv_iconst (v := 1) hx hb dHi_stepBack_55 (by decide) ?_
    exact q_ri cx hr rfl hP hS hQ h dHi_stepBack_56
  · replace h := if_t h hc
    refine lv_iconst (v := 0) hx hb dHi_stepBack_7 (by decide) ?_
    exact q_ri cx hr rfl hP hS hQ h dHi_stepBack_8
theorem dHi_stepForth_0 : decode cHi_stepForth 0 = .ok (.aload_n 0, 1) := by decide +kernel
theorem dHi_stepForth_1 : decode cHi_stepForth 1 = .ok (.getfield 24, 3) := by decide +kernel
theorem dHi_stepForth_4 : decode cHi_stepForth 4 = .ok (.ifCond .ne 5, 3) := by decide +kernel
theorem dHi_stepForth_7 : decode cHi_stepForth 7 = .ok (.iconst 0, 1) := by decide +kernel
theorem dHi_stepForth_8 : decode cHi_stepForth 8 = .ok (.ireturn, 1) := by decide +kernel
theorem dHi_stepForth_9 : decode cHi_stepForth 9 = .ok (.aload_n 0, 1) := by decide +kernel
theorem dHi_stepForth_10 : decode cHi_stepForth 10 = .ok (.aload_n 0, 1) := by decide +kernel
theorem dHi_stepForth_11 : decode cHi_stepForth 11 = .ok (.getfield 17, 3) := by decide +kernel
theorem dHi_stepForth_14 : decode cHi_stepForth 14 = .ok (.iconst 1, 1) := by decide +kernel
theorem dHi_stepForth_15 : decode cHi_stepForth 15 = .ok (.iadd, 1) := by decide +kernel
theorem dHi_stepForth_16 : decode cHi_stepForth 16 = .ok (.bipush 17, 2) := by decide +kernel
theorem dHi_stepForth_18 : decode cHi_stepForth 18 = .ok (.irem, 1) := by decide +kernel
theorem dHi_stepForth_19 : decode cHi_stepForth 19 = .ok (.putfield 17, 3) := by decide +kernel
theorem dHi_stepForth_22 : decode cHi_stepForth 22 = .ok (.aload_n 0, 1) := by decide +kernel
theorem dHi_stepForth_23 : decode cHi_stepForth 23 = .ok (.dup, 1) := by decide +kernel
theorem dHi_stepForth_24 : decode cHi_stepForth 24 = .ok (.getfield 21, 3) := by decide +kernel
theorem dHi_stepForth_27 : decode cHi_stepForth 27 = .ok (.iconst 1, 1) := by decide +kernel
theorem dHi_stepForth_28 : decode cHi_stepForth 28 = .ok (.iadd, 1) := by decide +kernel
theorem dHi_stepForth_29 : decode cHi_stepForth 29 = .ok (.putfield 21, 3) := by decide +kernel
theorem dHi_stepForth_32 : decode cHi_stepForth 32 = .ok (.aload_n 0, 1) := by decide +kernel
theorem dHi_stepForth_33 : decode cHi_stepForth 33 = .ok (.dup, 1) := by decide +kernel
theorem dHi_stepForth_34 : decode cHi_stepForth 34 = .ok (.getfield 24, 3) := by decide +kernel
theorem dHi_stepForth_37 : decode cHi_stepForth 37 = .ok (.iconst 1, 1) := by decide +kernel
theorem dHi_stepForth_38 : decode cHi_stepForth 38 = .ok (.isub, 1) := by decide +kernel
theorem dHi_stepForth_39 : decode cHi_stepForth 39 = .ok (.putfield 24, 3) := by decide +kernel
theorem dHi_stepForth_42 : decode cHi_stepForth 42 = .ok (.aload_n 0, 1) := by decide +kernel
theorem dHi_stepForth_43 : decode cHi_stepForth 43 = .ok (.dup, 1) := by decide +kernel
theorem dHi_stepForth_44 : decode cHi_stepForth 44 = .ok (.getfield 27, 3) := by decide +kernel
theorem dHi_stepForth_47 : decode cHi_stepForth 47 = .ok (.iconst 1, 1) := by decide +kernel
theorem dHi_stepForth_48 : decode cHi_stepForth 48 = .ok (.iadd, 1) := by decide +kernel
theorem dHi_stepForth_49 : decode cHi_stepForth 49 = .ok (.putfield 27, 3) := by decide +kernel
theorem dHi_stepForth_52 : decode cHi_stepForth 52 = .ok (.iconst 1, 1) := by decide +kernel
theorem dHi_stepForth_53 : decode cHi_stepForth 53 = .ok (.ireturn, 1) := by decide +kernel
def f_Hi_stepForth   (σ : Mem) : Option (Int32 × Mem) :=
  if (σ.1 1 3) = 0 then (
  some ((0 : Int32), σ))
  else (
  lt_ (sI σ 1 1 (((σ.1 1 1) + (1 : Int32)) - ((σ.1 1 1) + (1 : Int32)) / (17 : Int32) * (17 : Int32))) fun (σ1 : Mem) =>
  lt_ (sI σ1 1 2 ((σ1.1 1 2) + (1 : Int32))) fun (σ2 : Mem) =>
  lt_ (sI σ2 1 3 ((σ2.1 1 3) - (1 : Int32))) fun (σ3 : Mem) =>
  lt_ (sI σ3 1 4 ((σ3.1 1 4) + (1 : Int32))) fun (σ4 : Mem) =>
  some ((1 : Int32), σ4))
set_option maxHeartbeats 4000000 in
set_option maxRecDepth 100000 in
theorem c_Hi_stepForth (l : Launch) (g : Gw) (hg : wInj g) {r0 : Int32} {σ σ0 : Mem} (h : f_Hi_stepForth σ = some (r0, σ0)) : KI l yHi_stepForth cHi_stepForth 1 (some .boolean) 0 g [.ref (ad g 1)] σ r0 σ0 := by
  refine q_met g hg (own := "TermBench$History") rfl rfl (Nat.le_of_ble_eq_true rfl) (fun p e s m args below meth c R Q cx hRk hr hQ H locs ls hP hS hl => ?_)
  have hx := cx.1
  have hb := cx.2.1
  have hown := cx.2.2.2.1
  have hts := cx.2.2.2.2.1
  have hl : lv_has ls 1 [(0, .ref (ad g 1))] := hl
  unfold f_Hi_stepForth at h
  refine lv_aload_n hx hb dHi_stepForth_0 rfl (lv_at hl 0 rfl) ?_
  refine g_Hi_putBy cx hP  t_69 dHi_stepForth_1 ?_
  refine lv_if_ne (tgt := 9) hx hb dHi_stepForth_4 (by decide) (fun hc => ?_) (fun hc => ?_)
  · replace h := if_f h hc
    refine lv_aload_n hx hb dHi_stepForth_9 rfl (lv_at hl 0 rfl) ?_
    refine lv_aload_n hx hb dHi_stepForth_10 rfl (lv_at hl 0 rfl) ?_
    refine g_Hi_place cx hP  t_67 dHi_stepForth_11 ?_
    refine lv_iconst (v := 1) hx hb dHi_stepForth_14 (by decide) ?_
    refine lv_iadd hx hb dHi_stepForth_15 ?_
    refine lv_bipush (v := 17) hx hb dHi_stepForth_16 (by decide) ?_
    refine lv_irem hx hb dHi_stepForth_18 (by decide) ?_
    obtain ⟨σ1, eσ1, h⟩ := lt_some h
    refine p_Hi_place cx hP hS t_67 dHi_stepForth_19 eσ1 (fun H locs hP hS => ?_)
    refine lv_aload_n hx hb dHi_stepForth_22 rfl (lv_at hl 0 rfl) ?_
    refine lv_dup hx hb dHi_stepForth_23 rfl ?_
    refine g_Hi_kept cx hP  t_68 dHi_stepForth_24 ?_
    refine lv_iconst (v := 1) hx hb dHi_stepForth_27 (by decide) ?_
    refine lv_iadd hx hb dHi_stepForth_28 ?_
    obtain ⟨σ2, eσ2, h⟩ := lt_some h
    refine p_Hi_kept cx hP hS t_68 dHi_stepForth_29 eσ2 (fun H locs hP hS => ?_)
    refine lv_aload_n hx hb dHi_stepForth_32 rfl (lv_at hl 0 rfl) ?_
    refine lv_dup hx hb dHi_stepForth_33 rfl ?_
    refine g_Hi_putBy cx hP  t_69 dHi_stepForth_34 ?_
    refine lv_iconst (v := 1) hx hb dHi_stepForth_37 (by decide) ?_
    refine lv_isub hx hb dHi_stepForth_38 ?_
    obtain ⟨σ3, eσ3, h⟩ := lt_some h
    refine p_Hi_putBy cx hP hS t_69 dHi_stepForth_39 eσ3 (fun H locs hP hS => ?_)
    refine lv_aload_n hx hb dHi_stepForth_42 rfl (lv_at hl 0 rfl) ?_
    refine lv_dup hx hb dHi_stepForth_43 rfl ?_
    refine g_Hi_change cx hP  t_70 dHi_stepForth_44 ?_
    refine lv_iconst (v := 1) hx hb dHi_stepForth_47 (by decide) ?_
    refine lv_iadd hx hb dHi_stepForth_48 ?_
    obtain ⟨σ4, eσ4, h⟩ := lt_some h
    refine p_Hi_change cx hP hS t_70 dHi_stepForth_49 eσ4 (fun H locs hP hS => ?_)
    refine lv_iconst (v := 1) hx hb dHi_stepForth_52 (by decide) ?_
    exact q_ri cx hr rfl hP hS hQ h dHi_stepForth_53
  · replace h := if_t h hc
    refine lv_iconst (v := 0) hx hb dHi_stepForth_7 (by decide) ?_
    exact q_ri cx hr rfl hP hS hQ h dHi_stepForth_8
