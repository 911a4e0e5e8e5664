/-! 21.program, by program: pure functions and contracts -/
theorem dPr_isOnHole_0 : decode cPr_isOnHole 0 = .ok (.aload_n 0, 1) := by decide +kernel
theorem dPr_isOnHole_1 : decode cPr_isOnHole 1 = .ok (.getfield 9, 3) := by decide +kernel
theorem dPr_isOnHole_4 : decode cPr_isOnHole 4 = .ok (.aload_n 0, 1) := by decide +kernel
theorem dPr_isOnHole_5 : decode cPr_isOnHole 5 = .ok (.getfield 29, 3) := by decide +kernel
theorem dPr_isOnHole_8 : decode cPr_isOnHole 8 = .ok (.iaload, 1) := by decide +kernel
theorem dPr_isOnHole_9 : decode cPr_isOnHole 9 = .ok (.ifCond .ne 7, 3) := by decide +kernel
theorem dPr_isOnHole_12 : decode cPr_isOnHole 12 = .ok (.iconst 1, 1) := by decide +kernel
theorem dPr_isOnHole_13 : decode cPr_isOnHole 13 = .ok (.goto 4, 3) := by decide +kernel
theorem dPr_isOnHole_16 : decode cPr_isOnHole 16 = .ok (.iconst 0, 1) := by decide +kernel
theorem dPr_isOnHole_17 : decode cPr_isOnHole 17 = .ok (.ireturn, 1) := by decide +kernel
def f_Pr_isOnHole_J17 (i : Nat) (u0 : Int32) (σ : Mem) : Option (Int32 × Mem) :=
  gd (isB u0) (some (u0, σ))
def f_Pr_isOnHole (i : Nat)  (σ : Mem) : Option (Int32 × Mem) :=
  gd (inb (σ.1 (cP i) 5) 40) (
  if (σ.1 (cPk i) (σ.1 (cP i) 5).toNatClampNeg) = 0 then (
  f_Pr_isOnHole_J17 i (1 : Int32) σ)
  else (
  f_Pr_isOnHole_J17 i (0 : Int32) σ))
set_option maxHeartbeats 4000000 in
set_option maxRecDepth 100000 in
theorem c_Pr_isOnHole (l : Launch) (g : Gw) (hg : wInj g) {i : Nat} (hi : i < 17) {r0 : Int32} {σ σ0 : Mem} (h : f_Pr_isOnHole i σ = some (r0, σ0)) : KI l yPr_isOnHole cPr_isOnHole 1 (some .boolean) 0 g [.ref (ad g (cP i))] σ r0 σ0 := by
  refine q_met g hg (own := "TermBench$Program") rfl rfl (Nat.le_of_ble_eq_true rfl) (fun p e s m args below meth c R Q cx hRk hr hQ H locs ls hP hS hl => ?_)
  have hx := cx.1
  have hb := cx.2.1
  have hown := cx.2.2.2.1
  have hts := cx.2.2.2.2.1
  have hl : lv_has ls 1 [(0, .ref (ad g (cP i)))] := hl
  have J17 : ∀ (u0 : Int32) (σ : Mem), f_Pr_isOnHole_J17 i u0 σ = some (r0, σ0) → ∀ (H : Heap) (locs : List Loc) (ls : Array Slot), lv_has ls 1 [(0, .ref (ad g (cP i)))] → Wd g σ H → va_S (wA g) s.heap H locs → W p l e R s m args below meth c H locs 0 0 Q (F0 m 17 ls [.int u0]) := by
    intro u0 σ h H locs ls hl hP hS
    unfold f_Pr_isOnHole_J17 at h
    obtain ⟨b1, h⟩ := gd_some h
    exact q_ri cx hr (isB_n b1) hP hS hQ h dPr_isOnHole_17
  unfold f_Pr_isOnHole at h
  refine lv_aload_n hx hb dPr_isOnHole_0 rfl (lv_at hl 0 rfl) ?_
  refine g_Pr_kinds cx hP hi  t_33 dPr_isOnHole_1 ?_
  refine lv_aload_n hx hb dPr_isOnHole_4 rfl (lv_at hl 0 rfl) ?_
  refine g_Pr_cursor cx hP hi  t_48 dPr_isOnHole_5 ?_
  obtain ⟨b2, h⟩ := gd_some h
  refine q_iald cx hP (l_cPk hi) (e_cPk g hi) b2 dPr_isOnHole_8 ?_
  refine lv_if_ne (tgt := 16) hx hb dPr_isOnHole_9 (by decide) (fun hc => ?_) (fun hc => ?_)
  · replace h := if_f h hc
    refine lv_iconst (v := 0) hx hb dPr_isOnHole_16 (by decide) ?_
    exact J17 _ _ h _ _ _ (lv_sub hl [0] rfl) hP hS
  · replace h := if_t h hc
    refine lv_iconst (v := 1) hx hb dPr_isOnHole_12 (by decide) ?_
    refine lv_goto (tgt := 17) hx hb dPr_isOnHole_13 (by decide) ?_
    exact J17 _ _ h _ _ _ (lv_sub hl [0] rfl) hP hS
theorem dPr_copy_0 : decode cPr_copy 0 = .ok (.aload_n 0, 1) := by decide +kernel
theorem dPr_copy_1 : decode cPr_copy 1 = .ok (.aload_n 1, 1) := by decide +kernel
theorem dPr_copy_2 : decode cPr_copy 2 = .ok (.getfield 25, 3) := by decide +kernel
theorem dPr_copy_5 : decode cPr_copy 5 = .ok (.putfield 25, 3) := by decide +kernel
theorem dPr_copy_8 : decode cPr_copy 8 = .ok (.aload_n 0, 1) := by decide +kernel
theorem dPr_copy_9 : decode cPr_copy 9 = .ok (.aload_n 1, 1) := by decide +kernel
theorem dPr_copy_10 : decode cPr_copy 10 = .ok (.getfield 29, 3) := by decide +kernel
theorem dPr_copy_13 : decode cPr_copy 13 = .ok (.putfield 29, 3) := by decide +kernel
theorem dPr_copy_16 : decode cPr_copy 16 = .ok (.aload_n 1, 1) := by decide +kernel
theorem dPr_copy_17 : decode cPr_copy 17 = .ok (.getfield 9, 3) := by decide +kernel
theorem dPr_copy_20 : decode cPr_copy 20 = .ok (.iconst 0, 1) := by decide +kernel
theorem dPr_copy_21 : decode cPr_copy 21 = .ok (.aload_n 0, 1) := by decide +kernel
theorem dPr_copy_22 : decode cPr_copy 22 = .ok (.getfield 9, 3) := by decide +kernel
theorem dPr_copy_25 : decode cPr_copy 25 = .ok (.iconst 0, 1) := by decide +kernel
theorem dPr_copy_26 : decode cPr_copy 26 = .ok (.aload_n 0, 1) := by decide +kernel
theorem dPr_copy_27 : decode cPr_copy 27 = .ok (.getfield 25, 3) := by decide +kernel
theorem dPr_copy_30 : decode cPr_copy 30 = .ok (.invokestatic 32, 3) := by decide +kernel
theorem dPr_copy_33 : decode cPr_copy 33 = .ok (.aload_n 1, 1) := by decide +kernel
theorem dPr_copy_34 : decode cPr_copy 34 = .ok (.getfield 15, 3) := by decide +kernel
theorem dPr_copy_37 : decode cPr_copy 37 = .ok (.iconst 0, 1) := by decide +kernel
theorem dPr_copy_38 : decode cPr_copy 38 = .ok (.aload_n 0, 1) := by decide +kernel
theorem dPr_copy_39 : decode cPr_copy 39 = .ok (.getfield 15, 3) := by decide +kernel
theorem dPr_copy_42 : decode cPr_copy 42 = .ok (.iconst 0, 1) := by decide +kernel
theorem dPr_copy_43 : decode cPr_copy 43 = .ok (.aload_n 0, 1) := by decide +kernel
theorem dPr_copy_44 : decode cPr_copy 44 = .ok (.getfield 25, 3) := by decide +kernel
theorem dPr_copy_47 : decode cPr_copy 47 = .ok (.invokestatic 32, 3) := by decide +kernel
theorem dPr_copy_50 : decode cPr_copy 50 = .ok (.aload_n 1, 1) := by decide +kernel
theorem dPr_copy_51 : decode cPr_copy 51 = .ok (.getfield 18, 3) := by decide +kernel
theorem dPr_copy_54 : decode cPr_copy 54 = .ok (.iconst 0, 1) := by decide +kernel
theorem dPr_copy_55 : decode cPr_copy 55 = .ok (.aload_n 0, 1) := by decide +kernel
theorem dPr_copy_56 : decode cPr_copy 56 = .ok (.getfield 18, 3) := by decide +kernel
theorem dPr_copy_59 : decode cPr_copy 59 = .ok (.iconst 0, 1) := by decide +kernel
theorem dPr_copy_60 : decode cPr_copy 60 = .ok (.aload_n 0, 1) := by decide +kernel
theorem dPr_copy_61 : decode cPr_copy 61 = .ok (.getfield 25, 3) := by decide +kernel
theorem dPr_copy_64 : decode cPr_copy 64 = .ok (.invokestatic 32, 3) := by decide +kernel
theorem dPr_copy_67 : decode cPr_copy 67 = .ok (.aload_n 1, 1) := by decide +kernel
theorem dPr_copy_68 : decode cPr_copy 68 = .ok (.getfield 22, 3) := by decide +kernel
theorem dPr_copy_71 : decode cPr_copy 71 = .ok (.iconst 0, 1) := by decide +kernel
theorem dPr_copy_72 : decode cPr_copy 72 = .ok (.aload_n 0, 1) := by decide +kernel
theorem dPr_copy_73 : decode cPr_copy 73 = .ok (.getfield 22, 3) := by decide +kernel
theorem dPr_copy_76 : decode cPr_copy 76 = .ok (.iconst 0, 1) := by decide +kernel
theorem dPr_copy_77 : decode cPr_copy 77 = .ok (.aload_n 0, 1) := by decide +kernel
theorem dPr_copy_78 : decode cPr_copy 78 = .ok (.getfield 25, 3) := by decide +kernel
theorem dPr_copy_81 : decode cPr_copy 81 = .ok (.invokestatic 32, 3) := by decide +kernel
theorem dPr_copy_84 : decode cPr_copy 84 = .ok (.return_, 1) := by decide +kernel
def f_Pr_copy (i : Nat) (j : Nat)  (σ : Mem) : Option (Unit × Mem) :=
  lt_ (sI σ (cP i) 4 (σ.1 (cP j) 4)) fun (σ1 : Mem) =>
  lt_ (sI σ1 (cP i) 5 (σ1.1 (cP j) 5)) fun (σ2 : Mem) =>
  gd (cpOk (0 : Int32) (0 : Int32) (σ2.1 (cP i) 4) 40 40) (lt_ (rI σ2 (cPk i) (va_cpy (σ2.1 (cPk j)) (σ2.1 (cPk i)) (0 : Int32).toNatClampNeg (0 : Int32).toNatClampNeg (σ2.1 (cP i) 4).toNatClampNeg)) fun (σ4 : Mem) =>
  gd (cpOk (0 : Int32) (0 : Int32) (σ4.1 (cP i) 4) 40 40) (lt_ (rI σ4 (cPf i) (va_cpy (σ4.1 (cPf j)) (σ4.1 (cPf i)) (0 : Int32).toNatClampNeg (0 : Int32).toNatClampNeg (σ4.1 (cP i) 4).toNatClampNeg)) fun (σ6 : Mem) =>
  gd (cpOk (0 : Int32) (0 : Int32) (σ6.1 (cP i) 4) 40 40) (lt_ (rL σ6 (cPt i) (va_cpy (σ6.2 (cPt j)) (σ6.2 (cPt i)) (0 : Int32).toNatClampNeg (0 : Int32).toNatClampNeg (σ6.1 (cP i) 4).toNatClampNeg)) fun (σ8 : Mem) =>
  gd (cpOk (0 : Int32) (0 : Int32) (σ8.1 (cP i) 4) 40 40) (lt_ (rI σ8 (cPl i) (va_cpy (σ8.1 (cPl j)) (σ8.1 (cPl i)) (0 : Int32).toNatClampNeg (0 : Int32).toNatClampNeg (σ8.1 (cP i) 4).toNatClampNeg)) fun (σ10 : Mem) =>
  some ((), σ10)))))
set_option maxHeartbeats 4000000 in
set_option maxRecDepth 100000 in
theorem c_Pr_copy (l : Launch) (g : Gw) (hg : wInj g) {i : Nat} (hi : i < 17) {j : Nat} (hj : j < 17) {σ σ0 : Mem} (h : f_Pr_copy i j σ = some ((), σ0)) : KV l yPr_copy cPr_copy 2 none 1 g [.ref (ad g (cP i)), .ref (ad g (cP j))] σ σ0 := by
  refine q_met g hg (own := "TermBench$Program") rfl rfl (Nat.le_of_ble_eq_true rfl) (fun p e s m args below meth c R Q cx hRk hr hQ H locs ls hP hS hl => ?_)
  have hx := cx.1
  have hb := cx.2.1
  have hown := cx.2.2.2.1
  have hts := cx.2.2.2.2.1
  have hl : lv_has ls 2 [(0, .ref (ad g (cP i))), (1, .ref (ad g (cP j)))] := hl
  unfold f_Pr_copy at h
  refine lv_aload_n hx hb dPr_copy_0 rfl (lv_at hl 0 rfl) ?_
  refine lv_aload_n hx hb dPr_copy_1 rfl (lv_at hl 1 rfl) ?_
  refine g_Pr_size cx hP hj  t_45 dPr_copy_2 ?_
  obtain ⟨σ1, eσ1, h⟩ := lt_some h
  refine p_Pr_size cx hP hS hi t_45 dPr_copy_5 eσ1 (fun H locs hP hS => ?_)
  refine lv_aload_n hx hb dPr_copy_8 rfl (lv_at hl 0 rfl) ?_
  refine lv_aload_n hx hb dPr_copy_9 rfl (lv_at hl 1 rfl) ?_
  refine g_Pr_cursor cx hP hj  t_48 dPr_copy_10 ?_
  obtain ⟨σ2, eσ2, h⟩ := lt_some h
  refine p_Pr_cursor cx hP hS hi t_48 dPr_copy_13 eσ2 (fun H locs hP hS => ?_)
  refine lv_aload_n hx hb dPr_copy_16 rfl (lv_at hl 1 rfl) ?_
  refine g_Pr_kinds cx hP hj  t_33 dPr_copy_17 ?_
  refine lv_iconst (v := 0) hx hb dPr_copy_20 (by decide) ?_
  refine lv_aload_n hx hb dPr_copy_21 rfl (lv_at hl 0 rfl) ?_
  refine g_Pr_kinds cx hP hi  t_33 dPr_copy_22 ?_
  refine lv_iconst (v := 0) hx hb dPr_copy_25 (by decide) ?_
  refine lv_aload_n hx hb dPr_copy_26 rfl (lv_at hl 0 rfl) ?_
  refine g_Pr_size cx hP hi  t_45 dPr_copy_27 ?_
  obtain ⟨b3, h⟩ := gd_some h
  obtain ⟨σ4, eσ4, h⟩ := lt_some h
  refine q_copyi cx hP hS hRk t_198 N_copy (by omega) (l_cPk hj) (e_cPk g hj) (l_cPk hi) (e_cPk g hi) b3 hl.1 (Nat.le_of_ble_eq_true rfl) dPr_copy_30 eσ4 (fun H locs hP hS => ?_)
  refine lv_aload_n hx hb dPr_copy_33 rfl (lv_at hl 1 rfl) ?_
  refine g_Pr_figures cx hP hj  t_38 dPr_copy_34 ?_
  refine lv_iconst (v := 0) hx hb dPr_copy_37 (by decide) ?_
  refine lv_aload_n hx hb dPr_copy_38 rfl (lv_at hl 0 rfl) ?_
  refine g_Pr_figures cx hP hi  t_38 dPr_copy_39 ?_
  refine lv_iconst (v := 0) hx hb dPr_copy_42 (by decide) ?_
  refine lv_aload_n hx hb dPr_copy_43 rfl (lv_at hl 0 rfl) ?_
  refine g_Pr_size cx hP hi  t_45 dPr_copy_44 ?_
  obtain ⟨b5, h⟩ := gd_some h
  obtain ⟨σ6, eσ6, h⟩ := lt_some h
  refine q_copyi cx hP hS hRk t_198 N_copy (by omega) (l_cPf hj) (e_cPf g hj) (l_cPf hi) (e_cPf g hi) b5 hl.1 (Nat.le_of_ble_eq_true rfl) dPr_copy_47 eσ6 (fun H locs hP hS => ?_)
  refine lv_aload_n hx hb dPr_copy_50 rfl (lv_at hl 1 rfl) ?_
  refine g_Pr_types cx hP hj  t_41 dPr_copy_51 ?_
  refine lv_iconst (v := 0) hx hb dPr_copy_54 (by decide) ?_
  refine lv_aload_n hx hb dPr_copy_55 rfl (lv_at hl 0 rfl) ?_
  refine g_Pr_types cx hP hi  t_41 dPr_copy_56 ?_
  refine lv_iconst (v := 0) hx hb dPr_copy_59 (by decide) ?_
  refine lv_aload_n hx hb dPr_copy_60 rfl (lv_at hl 0 rfl) ?_
  refine g_Pr_size cx hP hi  t_45 dPr_copy_61 ?_
  obtain ⟨b7, h⟩ := gd_some h
  obtain ⟨σ8, eσ8, h⟩ := lt_some h
  refine q_copyl cx hP hS hRk t_198 N_copy (by omega) (l_cPt hj) (e_cPt g hj) (l_cPt hi) (e_cPt g hi) b7 hl.1 (Nat.le_of_ble_eq_true rfl) dPr_copy_64 eσ8 (fun H locs hP hS => ?_)
  refine lv_aload_n hx hb dPr_copy_67 rfl (lv_at hl 1 rfl) ?_
  refine g_Pr_levels cx hP hj  t_44 dPr_copy_68 ?_
  refine lv_iconst (v := 0) hx hb dPr_copy_71 (by decide) ?_
  refine lv_aload_n hx hb dPr_copy_72 rfl (lv_at hl 0 rfl) ?_
  refine g_Pr_levels cx hP hi  t_44 dPr_copy_73 ?_
  refine lv_iconst (v := 0) hx hb dPr_copy_76 (by decide) ?_
  refine lv_aload_n hx hb dPr_copy_77 rfl (lv_at hl 0 rfl) ?_
  refine g_Pr_size cx hP hi  t_45 dPr_copy_78 ?_
  obtain ⟨b9, h⟩ := gd_some h
  obtain ⟨σ10, eσ10, h⟩ := lt_some h
  refine q_copyi cx hP hS hRk t_198 N_copy (by omega) (l_cPl hj) (e_cPl g hj) (l_cPl hi) (e_cPl g hi) b9 hl.1 (Nat.le_of_ble_eq_true rfl) dPr_copy_81 eσ10 (fun H locs hP hS => ?_)
  exact q_rv cx hr hP hS hQ h dPr_copy_84
theorem dPr_write_0 : decode cPr_write 0 = .ok (.aload_n 0, 1) := by decide +kernel
theorem dPr_write_1 : decode cPr_write 1 = .ok (.getfield 9, 3) := by decide +kernel
theorem dPr_write_4 : decode cPr_write 4 = .ok (.iload_n 1, 1) := by decide +kernel
theorem dPr_write_5 : decode cPr_write 5 = .ok (.iload_n 2, 1) := by decide +kernel
theorem dPr_write_6 : decode cPr_write 6 = .ok (.iastore, 1) := by decide +kernel
theorem dPr_write_7 : decode cPr_write 7 = .ok (.aload_n 0, 1) := by decide +kernel
theorem dPr_write_8 : decode cPr_write 8 = .ok (.getfield 15, 3) := by decide +kernel
theorem dPr_write_11 : decode cPr_write 11 = .ok (.iload_n 1, 1) := by decide +kernel
theorem dPr_write_12 : decode cPr_write 12 = .ok (.iload_n 3, 1) := by decide +kernel
theorem dPr_write_13 : decode cPr_write 13 = .ok (.iastore, 1) := by decide +kernel
theorem dPr_write_14 : decode cPr_write 14 = .ok (.aload_n 0, 1) := by decide +kernel
theorem dPr_write_15 : decode cPr_write 15 = .ok (.getfield 18, 3) := by decide +kernel
theorem dPr_write_18 : decode cPr_write 18 = .ok (.iload_n 1, 1) := by decide +kernel
theorem dPr_write_19 : decode cPr_write 19 = .ok (.lload 4, 2) := by decide +kernel
theorem dPr_write_21 : decode cPr_write 21 = .ok (.lastore, 1) := by decide +kernel
theorem dPr_write_22 : decode cPr_write 22 = .ok (.return_, 1) := by decide +kernel
def f_Pr_write (i : Nat) (v1 : Int32) (v2 : Int32) (v3 : Int32) (v4 : Int64) (σ : Mem) : Option (Unit × Mem) :=
  gd (inb v1 40) (lt_ (sI σ (cPk i) v1.toNatClampNeg v2) fun (σ2 : Mem) =>
  gd (inb v1 40) (lt_ (sI σ2 (cPf i) v1.toNatClampNeg v3) fun (σ4 : Mem) =>
  gd (inb v1 40) (lt_ (sL σ4 (cPt i) v1.toNatClampNeg v4) fun (σ6 : Mem) =>
  some ((), σ6))))
set_option maxHeartbeats 4000000 in
set_option maxRecDepth 100000 in
theorem c_Pr_write (l : Launch) (g : Gw) (hg : wInj g) {i : Nat} (hi : i < 17) {v1 : Int32} {v2 : Int32} {v3 : Int32} {v4 : Int64} {σ σ0 : Mem} (h : f_Pr_write i v1 v2 v3 v4 σ = some ((), σ0)) : KV l yPr_write cPr_write 6 none 0 g [.ref (ad g (cP i)), .int v1, .int v2, .int v3, .long v4] σ σ0 := by
  refine q_met g hg (own := "TermBench$Program") rfl rfl (Nat.le_of_ble_eq_true rfl) (fun p e s m args below meth c R Q cx hRk hr hQ H locs ls hP hS hl => ?_)
  have hx := cx.1
  have hb := cx.2.1
  have hown := cx.2.2.2.1
  have hts := cx.2.2.2.2.1
  have hl : lv_has ls 6 [(0, .ref (ad g (cP i))), (1, .int v1), (2, .int v2), (3, .int v3), (4, .long v4)] := hl
  unfold f_Pr_write at h
  refine lv_aload_n hx hb dPr_write_0 rfl (lv_at hl 0 rfl) ?_
  refine g_Pr_kinds cx hP hi  t_33 dPr_write_1 ?_
  refine lv_iload_n hx hb dPr_write_4 rfl (lv_at hl 1 rfl) ?_
  refine lv_iload_n hx hb dPr_write_5 rfl (lv_at hl 2 rfl) ?_
  obtain ⟨b1, h⟩ := gd_some h
  obtain ⟨σ2, eσ2, h⟩ := lt_some h
  refine q_iast cx hP hS (l_cPk hi) (e_cPk g hi) b1 dPr_write_6 eσ2 (fun H locs hP hS => ?_)
  refine lv_aload_n hx hb dPr_write_7 rfl (lv_at hl 0 rfl) ?_
  refine g_Pr_figures cx hP hi  t_38 dPr_write_8 ?_
  refine lv_iload_n hx hb dPr_write_11 rfl (lv_at hl 1 rfl) ?_
  refine lv_iload_n hx hb dPr_write_12 rfl (lv_at hl 3 rfl) ?_
  obtain ⟨b3, h⟩ := gd_some h
  obtain ⟨σ4, eσ4, h⟩ := lt_some h
  refine q_iast cx hP hS (l_cPf hi) (e_cPf g hi) b3 dPr_write_13 eσ4 (fun H locs hP hS => ?_)
  refine lv_aload_n hx hb dPr_write_14 rfl (lv_at hl 0 rfl) ?_
  refine g_Pr_types cx hP hi  t_41 dPr_write_15 ?_
  refine lv_iload_n hx hb dPr_write_18 rfl (lv_at hl 1 rfl) ?_
  refine lv_lload hx hb dPr_write_19 (lv_at hl 4 rfl) ?_
  obtain ⟨b5, h⟩ := gd_some h
  obtain ⟨σ6, eσ6, h⟩ := lt_some h
  refine q_last cx hP hS (l_cPt hi) (e_cPt g hi) b5 dPr_write_21 eσ6 (fun H locs hP hS => ?_)
  exact q_rv cx hr hP hS hQ h dPr_write_22
theorem dPr_fill_0 : decode cPr_fill 0 = .ok (.aload_n 0, 1) := by decide +kernel
theorem dPr_fill_1 : decode cPr_fill 1 = .ok (.aload_n 0, 1) := by decide +kernel
theorem dPr_fill_2 : decode cPr_fill 2 = .ok (.getfield 29, 3) := by decide +kernel
theorem dPr_fill_5 : decode cPr_fill 5 = .ok (.iload_n 1, 1) := by decide +kernel
theorem dPr_fill_6 : decode cPr_fill 6 = .ok (.iload_n 2, 1) := by decide +kernel
theorem dPr_fill_7 : decode cPr_fill 7 = .ok (.lconst 0, 1) := by decide +kernel
theorem dPr_fill_8 : decode cPr_fill 8 = .ok (.invokevirtual 48, 3) := by decide +kernel
theorem dPr_fill_11 : decode cPr_fill 11 = .ok (.return_, 1) := by decide +kernel
def f_Pr_fill (i : Nat) (v1 : Int32) (v2 : Int32) (σ : Mem) : Option (Unit × Mem) :=
  bn (f_Pr_write i (σ.1 (cP i) 5) v1 v2 (0 : Int64) σ) fun (_ : Unit) (σ2 : Mem) =>
  some ((), σ2)
set_option maxHeartbeats 4000000 in
set_option maxRecDepth 100000 in
theorem c_Pr_fill (l : Launch) (g : Gw) (hg : wInj g) {i : Nat} (hi : i < 17) {v1 : Int32} {v2 : Int32} {σ σ0 : Mem} (h : f_Pr_fill i v1 v2 σ = some ((), σ0)) : KV l yPr_fill cPr_fill 3 none 1 g [.ref (ad g (cP i)), .int v1, .int v2] σ σ0 := by
  refine q_met g hg (own := "TermBench$Program") rfl rfl (Nat.le_of_ble_eq_true rfl) (fun p e s m args below meth c R Q cx hRk hr hQ H locs ls hP hS hl => ?_)
  have hx := cx.1
  have hb := cx.2.1
  have hown := cx.2.2.2.1
  have hts := cx.2.2.2.2.1
  have hl : lv_has ls 3 [(0, .ref (ad g (cP i))), (1, .int v1), (2, .int v2)] := hl
  unfold f_Pr_fill at h
  refine lv_aload_n hx hb dPr_fill_0 rfl (lv_at hl 0 rfl) ?_
  refine lv_aload_n hx hb dPr_fill_1 rfl (lv_at hl 0 rfl) ?_
  refine g_Pr_cursor cx hP hi  t_48 dPr_fill_2 ?_
  refine lv_iload_n hx hb dPr_fill_5 rfl (lv_at hl 1 rfl) ?_
  refine lv_iload_n hx hb dPr_fill_6 rfl (lv_at hl 2 rfl) ?_
  refine lv_lconst (v := 0) hx hb dPr_fill_7 rfl ?_
  obtain ⟨rh1, σ2, h1, h⟩ := bn_some h
  refine q_cVv (rest := []) (As := [.int (σ.1 (cP i) 5), .int v1, .int v2, .long (0 : Int64)]) cx hP hS hRk (c_Pr_write l g hg hi h1) Y_Pr_write V_Pr_write t_205 (by decide) (l_cP hi) (e_cP g hi _ _) rfl rfl hl.1 rfl (Nat.le_of_ble_eq_true rfl) dPr_fill_8 (fun H locs hP hS => ?_)
  exact q_rv cx hr hP hS hQ h dPr_fill_11
theorem dPr_end_0 : decode cPr_end 0 = .ok (.iload_n 1, 1) := by decide +kernel
theorem dPr_end_1 : decode cPr_end 1 = .ok (.iconst 1, 1) := by decide +kernel
theorem dPr_end_2 : decode cPr_end 2 = .ok (.iadd, 1) := by decide +kernel
theorem dPr_end_3 : decode cPr_end 3 = .ok (.istore_n 2, 1) := by decide +kernel
theorem dPr_end_4 : decode cPr_end 4 = .ok (.iload_n 2, 1) := by decide +kernel
theorem dPr_end_5 : decode cPr_end 5 = .ok (.aload_n 0, 1) := by decide +kernel
theorem dPr_end_6 : decode cPr_end 6 = .ok (.getfield 25, 3) := by decide +kernel
theorem dPr_end_9 : decode cPr_end 9 = .ok (.if_icmp .ge 24, 3) := by decide +kernel
theorem dPr_end_12 : decode cPr_end 12 = .ok (.aload_n 0, 1) := by decide +kernel
theorem dPr_end_13 : decode cPr_end 13 = .ok (.getfield 22, 3) := by decide +kernel
theorem dPr_end_16 : decode cPr_end 16 = .ok (.iload_n 2, 1) := by decide +kernel
theorem dPr_end_17 : decode cPr_end 17 = .ok (.iaload, 1) := by decide +kernel
theorem dPr_end_18 : decode cPr_end 18 = .ok (.aload_n 0, 1) := by decide +kernel
theorem dPr_end_19 : decode cPr_end 19 = .ok (.getfield 22, 3) := by decide +kernel
theorem dPr_end_22 : decode cPr_end 22 = .ok (.iload_n 1, 1) := by decide +kernel
theorem dPr_end_23 : decode cPr_end 23 = .ok (.iaload, 1) := by decide +kernel
theorem dPr_end_24 : decode cPr_end 24 = .ok (.if_icmp .le 9, 3) := by decide +kernel
theorem dPr_end_27 : decode cPr_end 27 = .ok (.iinc 2 1, 3) := by decide +kernel
theorem dPr_end_30 : decode cPr_end 30 = .ok (.goto (-26), 3) := by decide +kernel
theorem dPr_end_33 : decode cPr_end 33 = .ok (.iload_n 2, 1) := by decide +kernel
theorem dPr_end_34 : decode cPr_end 34 = .ok (.ireturn, 1) := by decide +kernel
def f_Pr_end_J33 (i : Nat) (v1 : Int32) (v2 : Int32) (σ : Mem) : Option (Int32 × Mem) :=
  some (v2, σ)
def f_Pr_end_L4 (i : Nat) (v1 : Int32) (v2 : Int32) (σ : Mem) : Option ((Int32 × Mem) ⊕ (Int32 × Mem)) :=
  if (σ.1 (cP i) 4) ≤ v2 then (
  inrM (f_Pr_end_J33 i v1 v2 σ))
  else (
  gd (inb v2 40) (
  gd (inb v1 40) (
  if (σ.1 (cPl i) v2.toNatClampNeg) ≤ (σ.1 (cPl i) v1.toNatClampNeg) then (
  inrM (f_Pr_end_J33 i v1 v2 σ))
  else (
  lt_ (v2 + 1) fun (x5 : Int32) =>
  some (.inl (x5, σ))))))
def f_Pr_end (i : Nat) (v1 : Int32) (σ : Mem) : Option (Int32 × Mem) :=
  lt_ (v1 + (1 : Int32)) fun (x6 : Int32) =>
  loopF (fun (q : (Int32 × Mem)) => f_Pr_end_L4 i v1 q.1 q.2) FU (x6, σ)
set_option maxHeartbeats 4000000 in
set_option maxRecDepth 100000 in
theorem c_Pr_end (l : Launch) (g : Gw) (hg : wInj g) {i : Nat} (hi : i < 17) {v1 : Int32} {r0 : Int32} {σ σ0 : Mem} (h : f_Pr_end i v1 σ = some (r0, σ0)) : KI l yPr_end cPr_end 3 (some .int) 0 g [.ref (ad g (cP i)), .int v1] σ r0 σ0 := by
  refine q_met g hg (own := "TermBench$Program") rfl rfl (Nat.le_of_ble_eq_true rfl) (fun p e s m args below meth c R Q cx hRk hr hQ H locs ls hP hS hl => ?_)
  have hx := cx.1
  have hb := cx.2.1
  have hown := cx.2.2.2.1
  have hts := cx.2.2.2.2.1
  have hl : lv_has ls 3 [(0, .ref (ad g (cP i))), (1, .int v1)] := hl
  have J33 : ∀ (v1 : Int32) (v2 : Int32) (σ : Mem), f_Pr_end_J33 i v1 v2 σ = some (r0, σ0) → ∀ (H : Heap) (locs : List Loc) (ls : Array Slot), lv_has ls 3 [(0, .ref (ad g (cP i))), (1, .int v1), (2, .int v2)] → Wd g σ H → va_S (wA g) s.heap H locs → W p l e R s m args below meth c H locs 0 0 Q (F0 m 33 ls []) := by
    intro v1 v2 σ h H locs ls hl hP hS
    unfold f_Pr_end_J33 at h
    refine lv_iload_n hx hb dPr_end_33 rfl (lv_at hl 2 rfl) ?_
    exact q_ri cx hr rfl hP hS hQ h dPr_end_34
  unfold f_Pr_end at h
  refine lv_iload_n hx hb dPr_end_0 rfl (lv_at hl 1 rfl) ?_
  refine lv_iconst (v := 1) hx hb dPr_end_1 (by decide) ?_
  refine lv_iadd hx hb dPr_end_2 ?_
  obtain ⟨x6, ex6, h⟩ := lt_some h
  refine q_nmi ex6 ?_
  refine lv_istore_n (lv' := [(2, .int x6), (0, .ref (ad g (cP i))), (1, .int v1)]) hx hb dPr_end_3 rfl hl (Nat.le_of_ble_eq_true rfl) rfl (fun ls hl => ?_)
  have L4 : ∀ (n : Nat) (v1 : Int32) (v2 : Int32) (σ : Mem), loopF (fun (q : (Int32 × Mem)) => f_Pr_end_L4 i v1 q.1 q.2) n (v2, σ) = some (r0, σ0) → ∀ (H : Heap) (locs : List Loc) (ls : Array Slot), lv_has ls 3 [(0, .ref (ad g (cP i))), (1, .int v1), (2, .int v2)] → Wd g σ H → va_S (wA g) s.heap H locs → W p l e R s m args below meth c H locs 0 0 Q (F0 m 4 ls []) := by
    intro n
    induction n with
    | zero => intro v1 v2 σ h; exact (loopF_zero h).elim
    | succ n ih4 =>
      intro v1 v2 σ h H locs ls hl hP hS
      obtain ⟨o4, h, K4, E4⟩ := loopF_succ h
      have h : f_Pr_end_L4 i v1 v2 σ = some o4 := h
      unfold f_Pr_end_L4 at h
      refine lv_iload_n hx hb dPr_end_4 rfl (lv_at hl 2 rfl) ?_
      refine lv_aload_n hx hb dPr_end_5 rfl (lv_at hl 0 rfl) ?_
      refine g_Pr_size cx hP hi  t_45 dPr_end_6 ?_
      refine lv_icmp_ge (tgt := 33) hx hb dPr_end_9 (by decide) (fun hc => ?_) (fun hc => ?_)
      · replace h := if_t h hc
        obtain ⟨z1, h, ez1⟩ := inrM_some h
        rw [E4 z1 ez1] at h
        exact J33 _ _ _ h _ _ _ (lv_sub hl [0, 1, 2] rfl) hP hS
      · replace h := if_f h hc
        refine lv_aload_n hx hb dPr_end_12 rfl (lv_at hl 0 rfl) ?_
        refine g_Pr_levels cx hP hi  t_44 dPr_end_13 ?_
        refine lv_iload_n hx hb dPr_end_16 rfl (lv_at hl 2 rfl) ?_
        obtain ⟨b2, h⟩ := gd_some h
        refine q_iald cx hP (l_cPl hi) (e_cPl g hi) b2 dPr_end_17 ?_
        refine lv_aload_n hx hb dPr_end_18 rfl (lv_at hl 0 rfl) ?_
        refine g_Pr_levels cx hP hi  t_44 dPr_end_19 ?_
        refine lv_iload_n hx hb dPr_end_22 rfl (lv_at hl 1 rfl) ?_
        obtain ⟨b3, h⟩ := gd_some h
        refine q_iald cx hP (l_cPl hi) (e_cPl g hi) b3 dPr_end_23 ?_
        refine lv_icmp_le (tgt := 33) hx hb dPr_end_24 (by decide) (fun hc => ?_) (fun hc => ?_)
        · replace h := if_t h hc
          obtain ⟨z4, h, ez4⟩ := inrM_some h
          rw [E4 z4 ez4] at h
          exact J33 _ _ _ h _ _ _ (lv_sub hl [0, 1, 2] rfl) hP hS
        · replace h := if_f h hc
          obtain ⟨x5, ex5, h⟩ := lt_some h
          refine lv_iinc (lv' := [(2, .int x5), (0, .ref (ad g (cP i))), (1, .int v1)]) hx hb dPr_end_27 hl (k := 2) rfl (q_inc ex5 (by decide)) (Nat.le_of_ble_eq_true rfl) rfl (fun ls hl => ?_)
          refine lv_goto (tgt := 4) hx hb dPr_end_30 (by decide) ?_
          exact ih4 _ _ _ (K4 _ (Option.some.inj h).symm) _ _ _ (lv_sub hl [1, 2, 0] rfl) hP hS
  exact L4 _ _ _ _ h _ _ _ (lv_sub hl [1, 2, 0] rfl) hP hS
theorem dPr_hasRoomAround_0 : decode cPr_hasRoomAround 0 = .ok (.aload_n 0, 1) := by decide +kernel
theorem dPr_hasRoomAround_1 : decode cPr_hasRoomAround 1 = .ok (.getfield 22, 3) := by decide +kernel
theorem dPr_hasRoomAround_4 : decode cPr_hasRoomAround 4 = .ok (.aload_n 0, 1) := by decide +kernel
theorem dPr_hasRoomAround_5 : decode cPr_hasRoomAround 5 = .ok (.getfield 29, 3) := by decide +kernel
theorem dPr_hasRoomAround_8 : decode cPr_hasRoomAround 8 = .ok (.iaload, 1) := by decide +kernel
theorem dPr_hasRoomAround_9 : decode cPr_hasRoomAround 9 = .ok (.istore_n 2, 1) := by decide +kernel
theorem dPr_hasRoomAround_10 : decode cPr_hasRoomAround 10 = .ok (.aload_n 0, 1) := by decide +kernel
theorem dPr_hasRoomAround_11 : decode cPr_hasRoomAround 11 = .ok (.aload_n 0, 1) := by decide +kernel
theorem dPr_hasRoomAround_12 : decode cPr_hasRoomAround 12 = .ok (.getfield 29, 3) := by decide +kernel
theorem dPr_hasRoomAround_15 : decode cPr_hasRoomAround 15 = .ok (.invokevirtual 38, 3) := by decide +kernel
theorem dPr_hasRoomAround_18 : decode cPr_hasRoomAround 18 = .ok (.istore_n 3, 1) := by decide +kernel
theorem dPr_hasRoomAround_19 : decode cPr_hasRoomAround 19 = .ok (.aload_n 0, 1) := by decide +kernel
theorem dPr_hasRoomAround_20 : decode cPr_hasRoomAround 20 = .ok (.getfield 29, 3) := by decide +kernel
theorem dPr_hasRoomAround_23 : decode cPr_hasRoomAround 23 = .ok (.istore 4, 2) := by decide +kernel
theorem dPr_hasRoomAround_25 : decode cPr_hasRoomAround 25 = .ok (.iload 4, 2) := by decide +kernel
theorem dPr_hasRoomAround_27 : decode cPr_hasRoomAround 27 = .ok (.iload_n 3, 1) := by decide +kernel
theorem dPr_hasRoomAround_28 : decode cPr_hasRoomAround 28 = .ok (.if_icmp .ge 21, 3) := by decide +kernel
theorem dPr_hasRoomAround_31 : decode cPr_hasRoomAround 31 = .ok (.iload_n 2, 1) := by decide +kernel
theorem dPr_hasRoomAround_32 : decode cPr_hasRoomAround 32 = .ok (.aload_n 0, 1) := by decide +kernel
theorem dPr_hasRoomAround_33 : decode cPr_hasRoomAround 33 = .ok (.getfield 22, 3) := by decide +kernel
theorem dPr_hasRoomAround_36 : decode cPr_hasRoomAround 36 = .ok (.iload 4, 2) := by decide +kernel
theorem dPr_hasRoomAround_38 : decode cPr_hasRoomAround 38 = .ok (.iaload, 1) := by decide +kernel
theorem dPr_hasRoomAround_39 : decode cPr_hasRoomAround 39 = .ok (.invokestatic 42, 3) := by decide +kernel
theorem dPr_hasRoomAround_42 : decode cPr_hasRoomAround 42 = .ok (.istore_n 2, 1) := by decide +kernel
theorem dPr_hasRoomAround_43 : decode cPr_hasRoomAround 43 = .ok (.iinc 4 1, 3) := by decide +kernel
theorem dPr_hasRoomAround_46 : decode cPr_hasRoomAround 46 = .ok (.goto (-21), 3) := by decide +kernel
theorem dPr_hasRoomAround_49 : decode cPr_hasRoomAround 49 = .ok (.aload_n 0, 1) := by decide +kernel
theorem dPr_hasRoomAround_50 : decode cPr_hasRoomAround 50 = .ok (.getfield 25, 3) := by decide +kernel
theorem dPr_hasRoomAround_53 : decode cPr_hasRoomAround 53 = .ok (.iload_n 1, 1) := by decide +kernel
theorem dPr_hasRoomAround_54 : decode cPr_hasRoomAround 54 = .ok (.iadd, 1) := by decide +kernel
theorem dPr_hasRoomAround_55 : decode cPr_hasRoomAround 55 = .ok (.bipush 40, 2) := by decide +kernel
theorem dPr_hasRoomAround_57 : decode cPr_hasRoomAround 57 = .ok (.if_icmp .gt 15, 3) := by decide +kernel
theorem dPr_hasRoomAround_60 : decode cPr_hasRoomAround 60 = .ok (.iload_n 2, 1) := by decide +kernel
theorem dPr_hasRoomAround_61 : decode cPr_hasRoomAround 61 = .ok (.iconst 1, 1) := by decide +kernel
theorem dPr_hasRoomAround_62 : decode cPr_hasRoomAround 62 = .ok (.iadd, 1) := by decide +kernel
theorem dPr_hasRoomAround_63 : decode cPr_hasRoomAround 63 = .ok (.bipush 12, 2) := by decide +kernel
theorem dPr_hasRoomAround_65 : decode cPr_hasRoomAround 65 = .ok (.if_icmp .ge 7, 3) := by decide +kernel
theorem dPr_hasRoomAround_68 : decode cPr_hasRoomAround 68 = .ok (.iconst 1, 1) := by decide +kernel
theorem dPr_hasRoomAround_69 : decode cPr_hasRoomAround 69 = .ok (.goto 4, 3) := by decide +kernel
theorem dPr_hasRoomAround_72 : decode cPr_hasRoomAround 72 = .ok (.iconst 0, 1) := by decide +kernel
theorem dPr_hasRoomAround_73 : decode cPr_hasRoomAround 73 = .ok (.ireturn, 1) := by decide +kernel
def f_Pr_hasRoomAround_J73 (i : Nat) (v1 : Int32) (v2 : Int32) (v3 : Int32) (v4 : Int32) (u0 : Int32) (σ : Mem) : Option (Int32 × Mem) :=
  gd (isB u0) (some (u0, σ))
def f_Pr_hasRoomAround_J72 (i : Nat) (v1 : Int32) (v2 : Int32) (v3 : Int32) (v4 : Int32) (σ : Mem) : Option (Int32 × Mem) :=
  f_Pr_hasRoomAround_J73 i v1 v2 v3 v4 (0 : Int32) σ
def f_Pr_hasRoomAround_L25 (i : Nat) (v1 : Int32) (v3 : Int32) (v2 : Int32) (v4 : Int32) (σ : Mem) : Option ((Int32 × Int32 × Mem) ⊕ (Int32 × Mem)) :=
  if v3 ≤ v4 then (
  inrM (if (40 : Int32) < ((σ.1 (cP i) 4) + v1) then (
  f_Pr_hasRoomAround_J72 i v1 v2 v3 v4 σ)
  else (
  if (12 : Int32) ≤ (v2 + (1 : Int32)) then (
  f_Pr_hasRoomAround_J72 i v1 v2 v3 v4 σ)
  else (
  f_Pr_hasRoomAround_J73 i v1 v2 v3 v4 (1 : Int32) σ))))
  else (
  gd (inb v4 40) (
  lt_ (if v2 < (σ.1 (cPl i) v4.toNatClampNeg) then (σ.1 (cPl i) v4.toNatClampNeg) else v2) fun (x4 : Int32) =>
  lt_ (v4 + 1) fun (x5 : Int32) =>
  some (.inl (x4, x5, σ))))
def f_Pr_hasRoomAround (i : Nat) (v1 : Int32) (σ : Mem) : Option (Int32 × Mem) :=
  gd (inb (σ.1 (cP i) 5) 40) (
  lt_ (σ.1 (cPl i) (σ.1 (cP i) 5).toNatClampNeg) fun (x7 : Int32) =>
  bn (f_Pr_end i (σ.1 (cP i) 5) σ) fun (r10 : Int32) (σ9 : Mem) =>
  lt_ (σ9.1 (cP i) 5) fun (x11 : Int32) =>
  loopF (fun (q : (Int32 × Int32 × Mem)) => f_Pr_hasRoomAround_L25 i v1 r10 q.1 q.2.1 q.2.2) FU (x7, x11, σ9))
set_option maxHeartbeats 4000000 in
set_option maxRecDepth 100000 in
theorem c_Pr_hasRoomAround (l : Launch) (g : Gw) (hg : wInj g) {i : Nat} (hi : i < 17) {v1 : Int32} {r0 : Int32} {σ σ0 : Mem} (h : f_Pr_hasRoomAround i v1 σ = some (r0, σ0)) : KI l yPr_hasRoomAround cPr_hasRoomAround 5 (some .boolean) 1 g [.ref (ad g (cP i)), .int v1] σ r0 σ0 := by
  refine q_met g hg (own := "TermBench$Program") rfl rfl (Nat.le_of_ble_eq_true rfl) (fun p e s m args below meth c R Q cx hRk hr hQ H locs ls hP hS hl => ?_)
  have hx := cx.1
  have hb := cx.2.1
  have hown := cx.2.2.2.1
  have hts := cx.2.2.2.2.1
  have hl : lv_has ls 5 [(0, .ref (ad g (cP i))), (1, .int v1)] := hl
  have J73 : ∀ (v1 : Int32) (v2 : Int32) (v3 : Int32) (v4 : Int32) (u0 : Int32) (σ : Mem), f_Pr_hasRoomAround_J73 i v1 v2 v3 v4 u0 σ = some (r0, σ0) → ∀ (H : Heap) (locs : List Loc) (ls : Array Slot), lv_has ls 5 [(0, .ref (ad g (cP i))), (1, .int v1), (2, .int v2), (3, .int v3), (4, .int v4)] → Wd g σ H → va_S (wA g) s.heap H locs → W p l e R s m args below meth c H locs 0 0 Q (F0 m 73 ls [.int u0]) := by
    intro v1 v2 v3 v4 u0 σ h H locs ls hl hP hS
    unfold f_Pr_hasRoomAround_J73 at h
    obtain ⟨b1, h⟩ := gd_some h
    exact q_ri cx hr (isB_n b1) hP hS hQ h dPr_hasRoomAround_73
  have J72 : ∀ (v1 : Int32) (v2 : Int32) (v3 : Int32) (v4 : Int32) (σ : Mem), f_Pr_hasRoomAround_J72 i v1 v2 v3 v4 σ = some (r0, σ0) → ∀ (H : Heap) (locs : List Loc) (ls : Array Slot), lv_has ls 5 [(0, .ref (ad g (cP i))), (1, .int v1), (2, .int v2), (3, .int v3), (4, .int v4)] → Wd g σ H → va_S (wA g) s.heap H locs → W p l e R s m args below meth c H locs 0 0 Q (F0 m 72 ls []) := by
    intro v1 v2 v3 v4 σ h H locs ls hl hP hS
    unfold f_Pr_hasRoomAround_J72 at h
    refine lv_iconst (v := 0) hx hb dPr_hasRoomAround_72 (by decide) ?_
    exact J73 _ _ _ _ _ _ h _ _ _ (lv_sub hl [0, 1, 2, 3, 4] rfl) hP hS
  unfold f_Pr_hasRoomAround at h
  refine lv_aload_n hx hb dPr_hasRoomAround_0 rfl (lv_at hl 0 rfl) ?_
  refine g_Pr_levels cx hP hi  t_44 dPr_hasRoomAround_1 ?_
  refine lv_aload_n hx hb dPr_hasRoomAround_4 rfl (lv_at hl 0 rfl) ?_
  refine g_Pr_cursor cx hP hi  t_48 dPr_hasRoomAround_5 ?_
  obtain ⟨b6, h⟩ := gd_some h
  refine q_iald cx hP (l_cPl hi) (e_cPl g hi) b6 dPr_hasRoomAround_8 ?_
  obtain ⟨x7, ex7, h⟩ := lt_some h
  refine q_nmi ex7 ?_
  refine lv_istore_n (lv' := [(2, .int x7), (0, .ref (ad g (cP i))), (1, .int v1)]) hx hb dPr_hasRoomAround_9 rfl hl (Nat.le_of_ble_eq_true rfl) rfl (fun ls hl => ?_)
  refine lv_aload_n hx hb dPr_hasRoomAround_10 rfl (lv_at hl 1 rfl) ?_
  refine lv_aload_n hx hb dPr_hasRoomAround_11 rfl (lv_at hl 1 rfl) ?_
  refine g_Pr_cursor cx hP hi  t_48 dPr_hasRoomAround_12 ?_
  obtain ⟨r10, σ9, h8, h⟩ := bn_some h
  refine q_cVi (rest := []) (As := [.int (σ.1 (cP i) 5)]) cx hP hS hRk (c_Pr_end l g hg hi h8) Y_Pr_end V_Pr_end t_228 (by decide) (l_cP hi) (e_cP g hi _ _) rfl rfl hl.1 rfl (Nat.le_of_ble_eq_true rfl) dPr_hasRoomAround_15 (fun H locs hP hS => ?_)
  refine lv_istore_n (lv' := [(3, .int r10), (2, .int x7), (0, .ref (ad g (cP i))), (1, .int v1)]) hx hb dPr_hasRoomAround_18 rfl hl (Nat.le_of_ble_eq_true rfl) rfl (fun ls hl => ?_)
  refine lv_aload_n hx hb dPr_hasRoomAround_19 rfl (lv_at hl 2 rfl) ?_
  refine g_Pr_cursor cx hP hi  t_48 dPr_hasRoomAround_20 ?_
  obtain ⟨x11, ex11, h⟩ := lt_some h
  refine q_nmi ex11 ?_
  refine lv_istore (lv' := [(4, .int x11), (3, .int r10), (2, .int x7), (0, .ref (ad g (cP i))), (1, .int v1)]) hx hb dPr_hasRoomAround_23 hl (Nat.le_of_ble_eq_true rfl) rfl (fun ls hl => ?_)
  have L25 : ∀ (n : Nat) (v1 : Int32) (v2 : Int32) (v3 : Int32) (v4 : Int32) (σ : Mem), loopF (fun (q : (Int32 × Int32 × Mem)) => f_Pr_hasRoomAround_L25 i v1 v3 q.1 q.2.1 q.2.2) n (v2, v4, σ) = some (r0, σ0) → ∀ (H : Heap) (locs : List Loc) (ls : Array Slot), lv_has ls 5 [(0, .ref (ad g (cP i))), (1, .int v1), (2, .int v2), (3, .int v3), (4, .int v4)] → Wd g σ H → va_S (wA g) s.heap H locs → W p l e R s m args below meth c H locs 0 0 Q (F0 m 25 ls []) := by
    intro n
    induction n with
    | zero => intro v1 v2 v3 v4 σ h; exact (loopF_zero h).elim
    | succ n ih25 =>
      intro v1 v2 v3 v4 σ h H locs ls hl hP hS
      obtain ⟨o25, h, K25, E25⟩ := loopF_succ h
      have h : f_Pr_hasRoomAround_L25 i v1 v3 v2 v4 σ = some o25 := h
      unfold f_Pr_hasRoomAround_L25 at h
      refine lv_iload hx hb dPr_hasRoomAround_25 (lv_at hl 4 rfl) ?_
      refine lv_iload_n hx hb dPr_hasRoomAround_27 rfl (lv_at hl 3 rfl) ?_
      refine lv_icmp_ge (tgt := 49) hx hb dPr_hasRoomAround_28 (by decide) (fun hc => ?_) (fun hc => ?_)
      · replace h := if_t h hc
        obtain ⟨z2, h, ez2⟩ := inrM_some h
        rw [E25 z2 ez2] at h
        refine lv_aload_n hx hb dPr_hasRoomAround_49 rfl (lv_at hl 0 rfl) ?_
        refine g_Pr_size cx hP hi  t_45 dPr_hasRoomAround_50 ?_
        refine lv_iload_n hx hb dPr_hasRoomAround_53 rfl (lv_at hl 1 rfl) ?_
        refine lv_iadd hx hb dPr_hasRoomAround_54 ?_
        refine lv_bipush (v := 40) hx hb dPr_hasRoomAround_55 (by decide) ?_
        refine lv_icmp_gt (tgt := 72) hx hb dPr_hasRoomAround_57 (by decide) (fun hc => ?_) (fun hc => ?_)
        · replace h := if_t h hc
          exact J72 _ _ _ _ _ h _ _ _ (lv_sub hl [0, 1, 2, 3, 4] rfl) hP hS
        · replace h := if_f h hc
          refine lv_iload_n hx hb dPr_hasRoomAround_60 rfl (lv_at hl 2 rfl) ?_
          refine lv_iconst (v := 1) hx hb dPr_hasRoomAround_61 (by decide) ?_
          refine lv_iadd hx hb dPr_hasRoomAround_62 ?_
          refine lv_bipush (v := 12) hx hb dPr_hasRoomAround_63 (by decide) ?_
          refine lv_icmp_ge (tgt := 72) hx hb dPr_hasRoomAround_65 (by decide) (fun hc => ?_) (fun hc => ?_)
          · replace h := if_t h hc
            exact J72 _ _ _ _ _ h _ _ _ (lv_sub hl [0, 1, 2, 3, 4] rfl) hP hS
          · replace h := if_f h hc
            refine lv_iconst (v := 1) hx hb dPr_hasRoomAround_68 (by decide) ?_
            refine lv_goto (tgt := 73) hx hb dPr_hasRoomAround_69 (by decide) ?_
            exact J73 _ _ _ _ _ _ h _ _ _ (lv_sub hl [0, 1, 2, 3, 4] rfl) hP hS
      · replace h := if_f h hc
        refine lv_iload_n hx hb dPr_hasRoomAround_31 rfl (lv_at hl 2 rfl) ?_
        refine lv_aload_n hx hb dPr_hasRoomAround_32 rfl (lv_at hl 0 rfl) ?_
        refine g_Pr_levels cx hP hi  t_44 dPr_hasRoomAround_33 ?_
        refine lv_iload hx hb dPr_hasRoomAround_36 (lv_at hl 4 rfl) ?_
        obtain ⟨b3, h⟩ := gd_some h
        refine q_iald cx hP (l_cPl hi) (e_cPl g hi) b3 dPr_hasRoomAround_38 ?_
        refine q_max cx hRk t_232 N_max (by omega) hl.1 (Nat.le_of_ble_eq_true rfl) dPr_hasRoomAround_39 ?_
        obtain ⟨x4, ex4, h⟩ := lt_some h
        refine q_nmi ex4 ?_
        refine lv_istore_n (lv' := [(2, .int x4), (0, .ref (ad g (cP i))), (1, .int v1), (3, .int v3), (4, .int v4)]) hx hb dPr_hasRoomAround_42 rfl hl (Nat.le_of_ble_eq_true rfl) rfl (fun ls hl => ?_)
        obtain ⟨x5, ex5, h⟩ := lt_some h
        refine lv_iinc (lv' := [(4, .int x5), (2, .int x4), (0, .ref (ad g (cP i))), (1, .int v1), (3, .int v3)]) hx hb dPr_hasRoomAround_43 hl (k := 4) rfl (q_inc ex5 (by decide)) (Nat.le_of_ble_eq_true rfl) rfl (fun ls hl => ?_)
        refine lv_goto (tgt := 25) hx hb dPr_hasRoomAround_46 (by decide) ?_
        exact ih25 _ _ _ _ _ (K25 _ (Option.some.inj h).symm) _ _ _ (lv_sub hl [2, 3, 1, 4, 0] rfl) hP hS
  exact L25 _ _ _ _ _ _ h _ _ _ (lv_sub hl [3, 4, 2, 1, 0] rfl) hP hS
theorem dPr_shiftLevels_0 : decode cPr_shiftLevels 0 = .ok (.iload_n 1, 1) := by decide +kernel
theorem dPr_shiftLevels_1 : decode cPr_shiftLevels 1 = .ok (.istore 4, 2) := by decide +kernel
theorem dPr_shiftLevels_3 : decode cPr_shiftLevels 3 = .ok (.iload 4, 2) := by decide +kernel
theorem dPr_shiftLevels_5 : decode cPr_shiftLevels 5 = .ok (.iload_n 2, 1) := by decide +kernel
theorem dPr_shiftLevels_6 : decode cPr_shiftLevels 6 = .ok (.if_icmp .ge 20, 3) := by decide +kernel
theorem dPr_shiftLevels_9 : decode cPr_shiftLevels 9 = .ok (.aload_n 0, 1) := by decide +kernel
theorem dPr_shiftLevels_10 : decode cPr_shiftLevels 10 = .ok (.getfield 22, 3) := by decide +kernel
theorem dPr_shiftLevels_13 : decode cPr_shiftLevels 13 = .ok (.iload 4, 2) := by decide +kernel
theorem dPr_shiftLevels_15 : decode cPr_shiftLevels 15 = .ok (.dup2, 1) := by decide +kernel
theorem dPr_shiftLevels_16 : decode cPr_shiftLevels 16 = .ok (.iaload, 1) := by decide +kernel
theorem dPr_shiftLevels_17 : decode cPr_shiftLevels 17 = .ok (.iload_n 3, 1) := by decide +kernel
theorem dPr_shiftLevels_18 : decode cPr_shiftLevels 18 = .ok (.iadd, 1) := by decide +kernel
theorem dPr_shiftLevels_19 : decode cPr_shiftLevels 19 = .ok (.iastore, 1) := by decide +kernel
theorem dPr_shiftLevels_20 : decode cPr_shiftLevels 20 = .ok (.iinc 4 1, 3) := by decide +kernel
theorem dPr_shiftLevels_23 : decode cPr_shiftLevels 23 = .ok (.goto (-20), 3) := by decide +kernel
theorem dPr_shiftLevels_26 : decode cPr_shiftLevels 26 = .ok (.return_, 1) := by decide +kernel
def f_Pr_shiftLevels_L3 (i : Nat) (v1 : Int32) (v2 : Int32) (v3 : Int32) (v4 : Int32) (σ : Mem) : Option ((Int32 × Mem) ⊕ (Unit × Mem)) :=
  if v2 ≤ v4 then (
  inrM (some ((), σ)))
  else (
  gd (inb v4 40) (
  gd (inb v4 40) (lt_ (sI σ (cPl i) v4.toNatClampNeg ((σ.1 (cPl i) v4.toNatClampNeg) + v3)) fun (σ4 : Mem) =>
  lt_ (v4 + 1) fun (x5 : Int32) =>
  some (.inl (x5, σ4)))))
def f_Pr_shiftLevels (i : Nat) (v1 : Int32) (v2 : Int32) (v3 : Int32) (σ : Mem) : Option (Unit × Mem) :=
  loopF (fun (q : (Int32 × Mem)) => f_Pr_shiftLevels_L3 i v1 v2 v3 q.1 q.2) FU (v1, σ)
set_option maxHeartbeats 4000000 in
set_option maxRecDepth 100000 in
theorem c_Pr_shiftLevels (l : Launch) (g : Gw) (hg : wInj g) {i : Nat} (hi : i < 17) {v1 : Int32} {v2 : Int32} {v3 : Int32} {σ σ0 : Mem} (h : f_Pr_shiftLevels i v1 v2 v3 σ = some ((), σ0)) : KV l yPr_shiftLevels cPr_shiftLevels 5 none 0 g [.ref (ad g (cP i)), .int v1, .int v2, .int v3] σ σ0 := by
  refine q_met g hg (own := "TermBench$Program") rfl rfl (Nat.le_of_ble_eq_true rfl) (fun p e s m args below meth c R Q cx hRk hr hQ H locs ls hP hS hl => ?_)
  have hx := cx.1
  have hb := cx.2.1
  have hown := cx.2.2.2.1
  have hts := cx.2.2.2.2.1
  have hl : lv_has ls 5 [(0, .ref (ad g (cP i))), (1, .int v1), (2, .int v2), (3, .int v3)] := hl
  unfold f_Pr_shiftLevels at h
  refine lv_iload_n hx hb dPr_shiftLevels_0 rfl (lv_at hl 1 rfl) ?_
  refine lv_istore (lv' := [(4, .int v1), (0, .ref (ad g (cP i))), (1, .int v1), (2, .int v2), (3, .int v3)]) hx hb dPr_shiftLevels_1 hl (Nat.le_of_ble_eq_true rfl) rfl (fun ls hl => ?_)
  have L3 : ∀ (n : Nat) (v1 : Int32) (v2 : Int32) (v3 : Int32) (v4 : Int32) (σ : Mem), loopF (fun (q : (Int32 × Mem)) => f_Pr_shiftLevels_L3 i v1 v2 v3 q.1 q.2) n (v4, σ) = some ((), σ0) → ∀ (H : Heap) (locs : List Loc) (ls : Array Slot), lv_has ls 5 [(0, .ref (ad g (cP i))), (1, .int v1), (2, .int v2), (3, .int v3), (4, .int v4)] → Wd g σ H → va_S (wA g) s.heap H locs → W p l e R s m args below meth c H locs 0 0 Q (F0 m 3 ls []) := by
    intro n
    induction n with
    | zero => intro v1 v2 v3 v4 σ h; exact (loopF_zero h).elim
    | succ n ih3 =>
      intro v1 v2 v3 v4 σ h H locs ls hl hP hS
      obtain ⟨o3, h, K3, E3⟩ := loopF_succ h
      have h : f_Pr_shiftLevels_L3 i v1 v2 v3 v4 σ = some o3 := h
      unfold f_Pr_shiftLevels_L3 at h
      refine lv_iload hx hb dPr_shiftLevels_3 (lv_at hl 4 rfl) ?_
      refine lv_iload_n hx hb dPr_shiftLevels_5 rfl (lv_at hl 2 rfl) ?_
      refine lv_icmp_ge (tgt := 26) hx hb dPr_shiftLevels_6 (by decide) (fun hc => ?_) (fun hc => ?_)
      · replace h := if_t h hc
        obtain ⟨z1, h, ez1⟩ := inrM_some h
        rw [E3 z1 ez1] at h
        exact q_rv cx hr hP hS hQ h dPr_shiftLevels_26
      · replace h := if_f h hc
        refine lv_aload_n hx hb dPr_shiftLevels_9 rfl (lv_at hl 0 rfl) ?_
        refine g_Pr_levels cx hP hi  t_44 dPr_shiftLevels_10 ?_
        refine lv_iload hx hb dPr_shiftLevels_13 (lv_at hl 4 rfl) ?_
        refine lv_dup2_11 hx hb dPr_shiftLevels_15 rfl rfl ?_
        obtain ⟨b2, h⟩ := gd_some h
        refine q_iald cx hP (l_cPl hi) (e_cPl g hi) b2 dPr_shiftLevels_16 ?_
        refine lv_iload_n hx hb dPr_shiftLevels_17 rfl (lv_at hl 3 rfl) ?_
        refine lv_iadd hx hb dPr_shiftLevels_18 ?_
        obtain ⟨b3, h⟩ := gd_some h
        obtain ⟨σ4, eσ4, h⟩ := lt_some h
        refine q_iast cx hP hS (l_cPl hi) (e_cPl g hi) b3 dPr_shiftLevels_19 eσ4 (fun H locs hP hS => ?_)
        obtain ⟨x5, ex5, h⟩ := lt_some h
        refine lv_iinc (lv' := [(4, .int x5), (0, .ref (ad g (cP i))), (1, .int v1), (2, .int v2), (3, .int v3)]) hx hb dPr_shiftLevels_20 hl (k := 4) rfl (q_inc ex5 (by decide)) (Nat.le_of_ble_eq_true rfl) rfl (fun ls hl => ?_)
        refine lv_goto (tgt := 3) hx hb dPr_shiftLevels_23 (by decide) ?_
        exact ih3 _ _ _ _ _ (K3 _ (Option.some.inj h).symm) _ _ _ (lv_sub hl [1, 2, 3, 4, 0] rfl) hP hS
  exact L3 _ _ _ _ _ _ h _ _ _ (lv_sub hl [1, 2, 3, 4, 0] rfl) hP hS
theorem dPr_moveTail_0 : decode cPr_moveTail 0 = .ok (.aload_n 0, 1) := by decide +kernel
theorem dPr_moveTail_1 : decode cPr_moveTail 1 = .ok (.getfield 25, 3) := by decide +kernel
theorem dPr_moveTail_4 : decode cPr_moveTail 4 = .ok (.iload_n 1, 1) := by decide +kernel
theorem dPr_moveTail_5 : decode cPr_moveTail 5 = .ok (.isub, 1) := by decide +kernel
theorem dPr_moveTail_6 : decode cPr_moveTail 6 = .ok (.istore_n 3, 1) := by decide +kernel
theorem dPr_moveTail_7 : decode cPr_moveTail 7 = .ok (.aload_n 0, 1) := by decide +kernel
theorem dPr_moveTail_8 : decode cPr_moveTail 8 = .ok (.getfield 9, 3) := by decide +kernel
theorem dPr_moveTail_11 : decode cPr_moveTail 11 = .ok (.iload_n 1, 1) := by decide +kernel
theorem dPr_moveTail_12 : decode cPr_moveTail 12 = .ok (.aload_n 0, 1) := by decide +kernel
theorem dPr_moveTail_13 : decode cPr_moveTail 13 = .ok (.getfield 9, 3) := by decide +kernel
theorem dPr_moveTail_16 : decode cPr_moveTail 16 = .ok (.iload_n 2, 1) := by decide +kernel
theorem dPr_moveTail_17 : decode cPr_moveTail 17 = .ok (.iload_n 3, 1) := by decide +kernel
theorem dPr_moveTail_18 : decode cPr_moveTail 18 = .ok (.invokestatic 32, 3) := by decide +kernel
theorem dPr_moveTail_21 : decode cPr_moveTail 21 = .ok (.aload_n 0, 1) := by decide +kernel
theorem dPr_moveTail_22 : decode cPr_moveTail 22 = .ok (.getfield 15, 3) := by decide +kernel
theorem dPr_moveTail_25 : decode cPr_moveTail 25 = .ok (.iload_n 1, 1) := by decide +kernel
theorem dPr_moveTail_26 : decode cPr_moveTail 26 = .ok (.aload_n 0, 1) := by decide +kernel
theorem dPr_moveTail_27 : decode cPr_moveTail 27 = .ok (.getfield 15, 3) := by decide +kernel
theorem dPr_moveTail_30 : decode cPr_moveTail 30 = .ok (.iload_n 2, 1) := by decide +kernel
theorem dPr_moveTail_31 : decode cPr_moveTail 31 = .ok (.iload_n 3, 1) := by decide +kernel
theorem dPr_moveTail_32 : decode cPr_moveTail 32 = .ok (.invokestatic 32, 3) := by decide +kernel
theorem dPr_moveTail_35 : decode cPr_moveTail 35 = .ok (.aload_n 0, 1) := by decide +kernel
theorem dPr_moveTail_36 : decode cPr_moveTail 36 = .ok (.getfield 18, 3) := by decide +kernel
theorem dPr_moveTail_39 : decode cPr_moveTail 39 = .ok (.iload_n 1, 1) := by decide +kernel
theorem dPr_moveTail_40 : decode cPr_moveTail 40 = .ok (.aload_n 0, 1) := by decide +kernel
theorem dPr_moveTail_41 : decode cPr_moveTail 41 = .ok (.getfield 18, 3) := by decide +kernel
theorem dPr_moveTail_44 : decode cPr_moveTail 44 = .ok (.iload_n 2, 1) := by decide +kernel
theorem dPr_moveTail_45 : decode cPr_moveTail 45 = .ok (.iload_n 3, 1) := by decide +kernel
theorem dPr_moveTail_46 : decode cPr_moveTail 46 = .ok (.invokestatic 32, 3) := by decide +kernel
theorem dPr_moveTail_49 : decode cPr_moveTail 49 = .ok (.aload_n 0, 1) := by decide +kernel
theorem dPr_moveTail_50 : decode cPr_moveTail 50 = .ok (.getfield 22, 3) := by decide +kernel
theorem dPr_moveTail_53 : decode cPr_moveTail 53 = .ok (.iload_n 1, 1) := by decide +kernel
theorem dPr_moveTail_54 : decode cPr_moveTail 54 = .ok (.aload_n 0, 1) := by decide +kernel
theorem dPr_moveTail_55 : decode cPr_moveTail 55 = .ok (.getfield 22, 3) := by decide +kernel
theorem dPr_moveTail_58 : decode cPr_moveTail 58 = .ok (.iload_n 2, 1) := by decide +kernel
theorem dPr_moveTail_59 : decode cPr_moveTail 59 = .ok (.iload_n 3, 1) := by decide +kernel
theorem dPr_moveTail_60 : decode cPr_moveTail 60 = .ok (.invokestatic 32, 3) := by decide +kernel
theorem dPr_moveTail_63 : decode cPr_moveTail 63 = .ok (.aload_n 0, 1) := by decide +kernel
theorem dPr_moveTail_64 : decode cPr_moveTail 64 = .ok (.dup, 1) := by decide +kernel
theorem dPr_moveTail_65 : decode cPr_moveTail 65 = .ok (.getfield 25, 3) := by decide +kernel
theorem dPr_moveTail_68 : decode cPr_moveTail 68 = .ok (.iload_n 2, 1) := by decide +kernel
theorem dPr_moveTail_69 : decode cPr_moveTail 69 = .ok (.iload_n 1, 1) := by decide +kernel
theorem dPr_moveTail_70 : decode cPr_moveTail 70 = .ok (.isub, 1) := by decide +kernel
theorem dPr_moveTail_71 : decode cPr_moveTail 71 = .ok (.iadd, 1) := by decide +kernel
theorem dPr_moveTail_72 : decode cPr_moveTail 72 = .ok (.putfield 25, 3) := by decide +kernel
theorem dPr_moveTail_75 : decode cPr_moveTail 75 = .ok (.return_, 1) := by decide +kernel
def f_Pr_moveTail (i : Nat) (v1 : Int32) (v2 : Int32) (σ : Mem) : Option (Unit × Mem) :=
  lt_ ((σ.1 (cP i) 4) - v1) fun (x1 : Int32) =>
  gd (cpOk v1 v2 x1 40 40) (lt_ (rI σ (cPk i) (va_cpy (σ.1 (cPk i)) (σ.1 (cPk i)) v1.toNatClampNeg v2.toNatClampNeg x1.toNatClampNeg)) fun (σ3 : Mem) =>
  gd (cpOk v1 v2 x1 40 40) (lt_ (rI σ3 (cPf i) (va_cpy (σ3.1 (cPf i)) (σ3.1 (cPf i)) v1.toNatClampNeg v2.toNatClampNeg x1.toNatClampNeg)) fun (σ5 : Mem) =>
  gd (cpOk v1 v2 x1 40 40) (lt_ (rL σ5 (cPt i) (va_cpy (σ5.2 (cPt i)) (σ5.2 (cPt i)) v1.toNatClampNeg v2.toNatClampNeg x1.toNatClampNeg)) fun (σ7 : Mem) =>
  gd (cpOk v1 v2 x1 40 40) (lt_ (rI σ7 (cPl i) (va_cpy (σ7.1 (cPl i)) (σ7.1 (cPl i)) v1.toNatClampNeg v2.toNatClampNeg x1.toNatClampNeg)) fun (σ9 : Mem) =>
  lt_ (sI σ9 (cP i) 4 ((σ9.1 (cP i) 4) + (v2 - v1))) fun (σ10 : Mem) =>
  some ((), σ10)))))
set_option maxHeartbeats 4000000 in
set_option maxRecDepth 100000 in
theorem c_Pr_moveTail (l : Launch) (g : Gw) (hg : wInj g) {i : Nat} (hi : i < 17) {v1 : Int32} {v2 : Int32} {σ σ0 : Mem} (h : f_Pr_moveTail i v1 v2 σ = some ((), σ0)) : KV l yPr_moveTail cPr_moveTail 4 none 1 g [.ref (ad g (cP i)), .int v1, .int v2] σ σ0 := by
  refine q_met g hg (own := "TermBench$Program") rfl rfl (Nat.le_of_ble_eq_true rfl) (fun p e s m args below meth c R Q cx hRk hr hQ H locs ls hP hS hl => ?_)
  have hx := cx.1
  have hb := cx.2.1
  have hown := cx.2.2.2.1
  have hts := cx.2.2.2.2.1
  have hl : lv_has ls 4 [(0, .ref (ad g (cP i))), (1, .int v1), (2, .int v2)] := hl
  unfold f_Pr_moveTail at h
  refine lv_aload_n hx hb dPr_moveTail_0 rfl (lv_at hl 0 rfl) ?_
  refine g_Pr_size cx hP hi  t_45 dPr_moveTail_1 ?_
  refine lv_iload_n hx hb dPr_moveTail_4 rfl (lv_at hl 1 rfl) ?_
  refine lv_isub hx hb dPr_moveTail_5 ?_
  obtain ⟨x1, ex1, h⟩ := lt_some h
  refine q_nmi ex1 ?_
  refine lv_istore_n (lv' := [(3, .int x1), (0, .ref (ad g (cP i))), (1, .int v1), (2, .int v2)]) hx hb dPr_moveTail_6 rfl hl (Nat.le_of_ble_eq_true rfl) rfl (fun ls hl => ?_)
  refine lv_aload_n hx hb dPr_moveTail_7 rfl (lv_at hl 1 rfl) ?_
  refine g_Pr_kinds cx hP hi  t_33 dPr_moveTail_8 ?_
  refine lv_iload_n hx hb dPr_moveTail_11 rfl (lv_at hl 2 rfl) ?_
  refine lv_aload_n hx hb dPr_moveTail_12 rfl (lv_at hl 1 rfl) ?_
  refine g_Pr_kinds cx hP hi  t_33 dPr_moveTail_13 ?_
  refine lv_iload_n hx hb dPr_moveTail_16 rfl (lv_at hl 3 rfl) ?_
  refine lv_iload_n hx hb dPr_moveTail_17 rfl (lv_at hl 0 rfl) ?_
  obtain ⟨b2, h⟩ := gd_some h
  obtain ⟨σ3, eσ3, h⟩ := lt_some h
  refine q_copyi cx hP hS hRk t_198 N_copy (by omega) (l_cPk hi) (e_cPk g hi) (l_cPk hi) (e_cPk g hi) b2 hl.1 (Nat.le_of_ble_eq_true rfl) dPr_moveTail_18 eσ3 (fun H locs hP hS => ?_)
  refine lv_aload_n hx hb dPr_moveTail_21 rfl (lv_at hl 1 rfl) ?_
  refine g_Pr_figures cx hP hi  t_38 dPr_moveTail_22 ?_
  refine lv_iload_n hx hb dPr_moveTail_25 rfl (lv_at hl 2 rfl) ?_
  refine lv_aload_n hx hb dPr_moveTail_26 rfl (lv_at hl 1 rfl) ?_
  refine g_Pr_figures cx hP hi  t_38 dPr_moveTail_27 ?_
  refine lv_iload_n hx hb dPr_moveTail_30 rfl (lv_at hl 3 rfl) ?_
  refine lv_iload_n hx hb dPr_moveTail_31 rfl (lv_at hl 0 rfl) ?_
  obtain ⟨b4, h⟩ := gd_some h
  obtain ⟨σ5, eσ5, h⟩ := lt_some h
  refine q_copyi cx hP hS hRk t_198 N_copy (by omega) (l_cPf hi) (e_cPf g hi) (l_cPf hi) (e_cPf g hi) b4 hl.1 (Nat.le_of_ble_eq_true rfl) dPr_moveTail_32 eσ5 (fun H locs hP hS => ?_)
  refine lv_aload_n hx hb dPr_moveTail_35 rfl (lv_at hl 1 rfl) ?_
  refine g_Pr_types cx hP hi  t_41 dPr_moveTail_36 ?_
  refine lv_iload_n hx hb dPr_moveTail_39 rfl (lv_at hl 2 rfl) ?_
  refine lv_aload_n hx hb dPr_moveTail_40 rfl (lv_at hl 1 rfl) ?_
  refine g_Pr_types cx hP hi  t_41 dPr_moveTail_41 ?_
  refine lv_iload_n hx hb dPr_moveTail_44 rfl (lv_at hl 3 rfl) ?_
  refine lv_iload_n hx hb dPr_moveTail_45 rfl (lv_at hl 0 rfl) ?_
  obtain ⟨b6, h⟩ := gd_some h
  obtain ⟨σ7, eσ7, h⟩ := lt_some h
  refine q_copyl cx hP hS hRk t_198 N_copy (by omega) (l_cPt hi) (e_cPt g hi) (l_cPt hi) (e_cPt g hi) b6 hl.1 (Nat.le_of_ble_eq_true rfl) dPr_moveTail_46 eσ7 (fun H locs hP hS => ?_)
  refine lv_aload_n hx hb dPr_moveTail_49 rfl (lv_at hl 1 rfl) ?_
  refine g_Pr_levels cx hP hi  t_44 dPr_moveTail_50 ?_
  refine lv_iload_n hx hb dPr_moveTail_53 rfl (lv_at hl 2 rfl) ?_
  refine lv_aload_n hx hb dPr_moveTail_54 rfl (lv_at hl 1 rfl) ?_
  refine g_Pr_levels cx hP hi  t_44 dPr_moveTail_55 ?_
  refine lv_iload_n hx hb dPr_moveTail_58 rfl (lv_at hl 3 rfl) ?_
  refine lv_iload_n hx hb dPr_moveTail_59 rfl (lv_at hl 0 rfl) ?_
  obtain ⟨b8, h⟩ := gd_some h
  obtain ⟨σ9, eσ9, h⟩ := lt_some h
  refine q_copyi cx hP hS hRk t_198 N_copy (by omega) (l_cPl hi) (e_cPl g hi) (l_cPl hi) (e_cPl g hi) b8 hl.1 (Nat.le_of_ble_eq_true rfl) dPr_moveTail_60 eσ9 (fun H locs hP hS => ?_)
  refine lv_aload_n hx hb dPr_moveTail_63 rfl (lv_at hl 1 rfl) ?_
  refine lv_dup hx hb dPr_moveTail_64 rfl ?_
  refine g_Pr_size cx hP hi  t_45 dPr_moveTail_65 ?_
  refine lv_iload_n hx hb dPr_moveTail_68 rfl (lv_at hl 3 rfl) ?_
  refine lv_iload_n hx hb dPr_moveTail_69 rfl (lv_at hl 2 rfl) ?_
  refine lv_isub hx hb dPr_moveTail_70 ?_
  refine lv_iadd hx hb dPr_moveTail_71 ?_
  obtain ⟨σ10, eσ10, h⟩ := lt_some h
  refine p_Pr_size cx hP hS hi t_45 dPr_moveTail_72 eσ10 (fun H locs hP hS => ?_)
  exact q_rv cx hr hP hS hQ h dPr_moveTail_75
theorem dPr_wrap_0 : decode cPr_wrap 0 = .ok (.aload_n 0, 1) := by decide +kernel
theorem dPr_wrap_1 : decode cPr_wrap 1 = .ok (.aload_n 0, 1) := by decide +kernel
theorem dPr_wrap_2 : decode cPr_wrap 2 = .ok (.getfield 29, 3) := by decide +kernel
theorem dPr_wrap_5 : decode cPr_wrap 5 = .ok (.aload_n 0, 1) := by decide +kernel
theorem dPr_wrap_6 : decode cPr_wrap 6 = .ok (.aload_n 0, 1) := by decide +kernel
theorem dPr_wrap_7 : decode cPr_wrap 7 = .ok (.getfield 29, 3) := by decide +kernel
theorem dPr_wrap_10 : decode cPr_wrap 10 = .ok (.invokevirtual 38, 3) := by decide +kernel
theorem dPr_wrap_13 : decode cPr_wrap 13 = .ok (.iconst 1, 1) := by decide +kernel
theorem dPr_wrap_14 : decode cPr_wrap 14 = .ok (.invokevirtual 52, 3) := by decide +kernel
theorem dPr_wrap_17 : decode cPr_wrap 17 = .ok (.aload_n 0, 1) := by decide +kernel
theorem dPr_wrap_18 : decode cPr_wrap 18 = .ok (.getfield 22, 3) := by decide +kernel
theorem dPr_wrap_21 : decode cPr_wrap 21 = .ok (.aload_n 0, 1) := by decide +kernel
theorem dPr_wrap_22 : decode cPr_wrap 22 = .ok (.getfield 29, 3) := by decide +kernel
theorem dPr_wrap_25 : decode cPr_wrap 25 = .ok (.iaload, 1) := by decide +kernel
theorem dPr_wrap_26 : decode cPr_wrap 26 = .ok (.iconst 1, 1) := by decide +kernel
theorem dPr_wrap_27 : decode cPr_wrap 27 = .ok (.isub, 1) := by decide +kernel
theorem dPr_wrap_28 : decode cPr_wrap 28 = .ok (.istore 5, 2) := by decide +kernel
theorem dPr_wrap_30 : decode cPr_wrap 30 = .ok (.aload_n 0, 1) := by decide +kernel
theorem dPr_wrap_31 : decode cPr_wrap 31 = .ok (.aload_n 0, 1) := by decide +kernel
theorem dPr_wrap_32 : decode cPr_wrap 32 = .ok (.getfield 29, 3) := by decide +kernel
theorem dPr_wrap_35 : decode cPr_wrap 35 = .ok (.aload_n 0, 1) := by decide +kernel
theorem dPr_wrap_36 : decode cPr_wrap 36 = .ok (.getfield 29, 3) := by decide +kernel
theorem dPr_wrap_39 : decode cPr_wrap 39 = .ok (.iconst 1, 1) := by decide +kernel
theorem dPr_wrap_40 : decode cPr_wrap 40 = .ok (.iadd, 1) := by decide +kernel
theorem dPr_wrap_41 : decode cPr_wrap 41 = .ok (.invokevirtual 56, 3) := by decide +kernel
theorem dPr_wrap_44 : decode cPr_wrap 44 = .ok (.aload_n 0, 1) := by decide +kernel
theorem dPr_wrap_45 : decode cPr_wrap 45 = .ok (.aload_n 0, 1) := by decide +kernel
theorem dPr_wrap_46 : decode cPr_wrap 46 = .ok (.getfield 29, 3) := by decide +kernel
theorem dPr_wrap_49 : decode cPr_wrap 49 = .ok (.iload_n 1, 1) := by decide +kernel
theorem dPr_wrap_50 : decode cPr_wrap 50 = .ok (.iload_n 2, 1) := by decide +kernel
theorem dPr_wrap_51 : decode cPr_wrap 51 = .ok (.lload_n 3, 1) := by decide +kernel
theorem dPr_wrap_52 : decode cPr_wrap 52 = .ok (.invokevirtual 48, 3) := by decide +kernel
theorem dPr_wrap_55 : decode cPr_wrap 55 = .ok (.aload_n 0, 1) := by decide +kernel
theorem dPr_wrap_56 : decode cPr_wrap 56 = .ok (.getfield 22, 3) := by decide +kernel
theorem dPr_wrap_59 : decode cPr_wrap 59 = .ok (.aload_n 0, 1) := by decide +kernel
theorem dPr_wrap_60 : decode cPr_wrap 60 = .ok (.getfield 29, 3) := by decide +kernel
theorem dPr_wrap_63 : decode cPr_wrap 63 = .ok (.iload 5, 2) := by decide +kernel
theorem dPr_wrap_65 : decode cPr_wrap 65 = .ok (.iastore, 1) := by decide +kernel
theorem dPr_wrap_66 : decode cPr_wrap 66 = .ok (.aload_n 0, 1) := by decide +kernel
theorem dPr_wrap_67 : decode cPr_wrap 67 = .ok (.dup, 1) := by decide +kernel
theorem dPr_wrap_68 : decode cPr_wrap 68 = .ok (.getfield 29, 3) := by decide +kernel
theorem dPr_wrap_71 : decode cPr_wrap 71 = .ok (.iconst 1, 1) := by decide +kernel
theorem dPr_wrap_72 : decode cPr_wrap 72 = .ok (.iadd, 1) := by decide +kernel
theorem dPr_wrap_73 : decode cPr_wrap 73 = .ok (.putfield 29, 3) := by decide +kernel
theorem dPr_wrap_76 : decode cPr_wrap 76 = .ok (.return_, 1) := by decide +kernel
def f_Pr_wrap (i : Nat) (v1 : Int32) (v2 : Int32) (v3 : Int64) (σ : Mem) : Option (Unit × Mem) :=
  bn (f_Pr_end i (σ.1 (cP i) 5) σ) fun (r3 : Int32) (σ2 : Mem) =>
  bn (f_Pr_shiftLevels i (σ.1 (cP i) 5) r3 (1 : Int32) σ2) fun (_ : Unit) (σ5 : Mem) =>
  gd (inb (σ5.1 (cP i) 5) 40) (
  lt_ ((σ5.1 (cPl i) (σ5.1 (cP i) 5).toNatClampNeg) - (1 : Int32)) fun (x7 : Int32) =>
  bn (f_Pr_moveTail i (σ5.1 (cP i) 5) ((σ5.1 (cP i) 5) + (1 : Int32)) σ5) fun (_ : Unit) (σ9 : Mem) =>
  bn (f_Pr_write i (σ9.1 (cP i) 5) v1 v2 v3 σ9) fun (_ : Unit) (σ11 : Mem) =>
  gd (inb (σ11.1 (cP i) 5) 40) (lt_ (sI σ11 (cPl i) (σ11.1 (cP i) 5).toNatClampNeg x7) fun (σ13 : Mem) =>
  lt_ (sI σ13 (cP i) 5 ((σ13.1 (cP i) 5) + (1 : Int32))) fun (σ14 : Mem) =>
  some ((), σ14)))
set_option maxHeartbeats 4000000 in
set_option maxRecDepth 100000 in
theorem c_Pr_wrap (l : Launch) (g : Gw) (hg : wInj g) {i : Nat} (hi : i < 17) {v1 : Int32} {v2 : Int32} {v3 : Int64} {σ σ0 : Mem} (h : f_Pr_wrap i v1 v2 v3 σ = some ((), σ0)) : KV l yPr_wrap cPr_wrap 6 none 2 g [.ref (ad g (cP i)), .int v1, .int v2, .long v3] σ σ0 := by
  refine q_met g hg (own := "TermBench$Program") rfl rfl (Nat.le_of_ble_eq_true rfl) (fun p e s m args below meth c R Q cx hRk hr hQ H locs ls hP hS hl => ?_)
  have hx := cx.1
  have hb := cx.2.1
  have hown := cx.2.2.2.1
  have hts := cx.2.2.2.2.1
  have hl : lv_has ls 6 [(0, .ref (ad g (cP i))), (1, .int v1), (2, .int v2), (3, .long v3)] := hl
  unfold f_Pr_wrap at h
  refine lv_aload_n hx hb dPr_wrap_0 rfl (lv_at hl 0 rfl) ?_
  refine lv_aload_n hx hb dPr_wrap_1 rfl (lv_at hl 0 rfl) ?_
  refine g_Pr_cursor cx hP hi  t_48 dPr_wrap_2 ?_
  refine lv_aload_n hx hb dPr_wrap_5 rfl (lv_at hl 0 rfl) ?_
  refine lv_aload_n hx hb dPr_wrap_6 rfl (lv_at hl 0 rfl) ?_
  refine g_Pr_cursor cx hP hi  t_48 dPr_wrap_7 ?_
  obtain ⟨r3, σ2, h1, h⟩ := bn_some h
  refine q_cVi (rest := [.int (σ.1 (cP i) 5), .ref (ad g (cP i))]) (As := [.int (σ.1 (cP i) 5)]) cx hP hS hRk (c_Pr_end l g hg hi h1) Y_Pr_end V_Pr_end t_228 (by decide) (l_cP hi) (e_cP g hi _ _) rfl rfl hl.1 rfl (Nat.le_of_ble_eq_true rfl) dPr_wrap_10 (fun H locs hP hS => ?_)
  refine lv_iconst (v := 1) hx hb dPr_wrap_13 (by decide) ?_
  obtain ⟨rh4, σ5, h4, h⟩ := bn_some h
  refine q_cVv (rest := []) (As := [.int (σ.1 (cP i) 5), .int r3, .int (1 : Int32)]) cx hP hS hRk (c_Pr_shiftLevels l g hg hi h4) Y_Pr_shiftLevels V_Pr_shiftLevels t_243 (by decide) (l_cP hi) (e_cP g hi _ _) rfl rfl hl.1 rfl (Nat.le_of_ble_eq_true rfl) dPr_wrap_14 (fun H locs hP hS => ?_)
  refine lv_aload_n hx hb dPr_wrap_17 rfl (lv_at hl 0 rfl) ?_
  refine g_Pr_levels cx hP hi  t_44 dPr_wrap_18 ?_
  refine lv_aload_n hx hb dPr_wrap_21 rfl (lv_at hl 0 rfl) ?_
  refine g_Pr_cursor cx hP hi  t_48 dPr_wrap_22 ?_
  obtain ⟨b6, h⟩ := gd_some h
  refine q_iald cx hP (l_cPl hi) (e_cPl g hi) b6 dPr_wrap_25 ?_
  refine lv_iconst (v := 1) hx hb dPr_wrap_26 (by decide) ?_
  refine lv_isub hx hb dPr_wrap_27 ?_
  obtain ⟨x7, ex7, h⟩ := lt_some h
  refine q_nmi ex7 ?_
  refine lv_istore (lv' := [(5, .int x7), (0, .ref (ad g (cP i))), (1, .int v1), (2, .int v2), (3, .long v3)]) hx hb dPr_wrap_28 hl (Nat.le_of_ble_eq_true rfl) rfl (fun ls hl => ?_)
  refine lv_aload_n hx hb dPr_wrap_30 rfl (lv_at hl 1 rfl) ?_
  refine lv_aload_n hx hb dPr_wrap_31 rfl (lv_at hl 1 rfl) ?_
  refine g_Pr_cursor cx hP hi  t_48 dPr_wrap_32 ?_
  refine lv_aload_n hx hb dPr_wrap_35 rfl (lv_at hl 1 rfl) ?_
  refine g_Pr_cursor cx hP hi  t_48 dPr_wrap_36 ?_
  refine lv_iconst (v := 1) hx hb dPr_wrap_39 (by decide) ?_
  refine lv_iadd hx hb dPr_wrap_40 ?_
  obtain ⟨rh8, σ9, h8, h⟩ := bn_some h
  refine q_cVv (rest := []) (As := [.int (σ5.1 (cP i) 5), .int ((σ5.1 (cP i) 5) + (1 : Int32))]) cx hP hS hRk (c_Pr_moveTail l g hg hi h8) Y_Pr_moveTail V_Pr_moveTail t_247 (by decide) (l_cP hi) (e_cP g hi _ _) rfl rfl hl.1 rfl (Nat.le_of_ble_eq_true rfl) dPr_wrap_41 (fun H locs hP hS => ?_)
  refine lv_aload_n hx hb dPr_wrap_44 rfl (lv_at hl 1 rfl) ?_
  refine lv_aload_n hx hb dPr_wrap_45 rfl (lv_at hl 1 rfl) ?_
  refine g_Pr_cursor cx hP hi  t_48 dPr_wrap_46 ?_
  refine lv_iload_n hx hb dPr_wrap_49 rfl (lv_at hl 2 rfl) ?_
  refine lv_iload_n hx hb dPr_wrap_50 rfl (lv_at hl 3 rfl) ?_
  refine lv_lload_n hx hb dPr_wrap_51 rfl (lv_at hl 4 rfl) ?_
  obtain ⟨rh10, σ11, h10, h⟩ := bn_some h
  refine q_cVv (rest := []) (As := [.int (σ9.1 (cP i) 5), .int v1, .int v2, .long v3]) cx hP hS hRk (c_Pr_write l g hg hi h10) Y_Pr_write V_Pr_write t_205 (by decide) (l_cP hi) (e_cP g hi _ _) rfl rfl hl.1 rfl (Nat.le_of_ble_eq_true rfl) dPr_wrap_52 (fun H locs hP hS => ?_)
  refine lv_aload_n hx hb dPr_wrap_55 rfl (lv_at hl 1 rfl) ?_
  refine g_Pr_levels cx hP hi  t_44 dPr_wrap_56 ?_
  refine lv_aload_n hx hb dPr_wrap_59 rfl (lv_at hl 1 rfl) ?_
  refine g_Pr_cursor cx hP hi  t_48 dPr_wrap_60 ?_
  refine lv_iload hx hb dPr_wrap_63 (lv_at hl 0 rfl) ?_
  obtain ⟨b12, h⟩ := gd_some h
  obtain ⟨σ13, eσ13, h⟩ := lt_some h
  refine q_iast cx hP hS (l_cPl hi) (e_cPl g hi) b12 dPr_wrap_65 eσ13 (fun H locs hP hS => ?_)
  refine lv_aload_n hx hb dPr_wrap_66 rfl (lv_at hl 1 rfl) ?_
  refine lv_dup hx hb dPr_wrap_67 rfl ?_
  refine g_Pr_cursor cx hP hi  t_48 dPr_wrap_68 ?_
  refine lv_iconst (v := 1) hx hb dPr_wrap_71 (by decide) ?_
  refine lv_iadd hx hb dPr_wrap_72 ?_
  obtain ⟨σ14, eσ14, h⟩ := lt_some h
  refine p_Pr_cursor cx hP hS hi t_48 dPr_wrap_73 eσ14 (fun H locs hP hS => ?_)
  exact q_rv cx hr hP hS hQ h dPr_wrap_76
theorem dPr_join_0 : decode cPr_join 0 = .ok (.aload_n 0, 1) := by decide +kernel
theorem dPr_join_1 : decode cPr_join 1 = .ok (.getfield 29, 3) := by decide +kernel
theorem dPr_join_4 : decode cPr_join 4 = .ok (.istore_n 3, 1) := by decide +kernel
theorem dPr_join_5 : decode cPr_join 5 = .ok (.aload_n 0, 1) := by decide +kernel
theorem dPr_join_6 : decode cPr_join 6 = .ok (.iload_n 1, 1) := by decide +kernel
theorem dPr_join_7 : decode cPr_join 7 = .ok (.iconst 0, 1) := by decide +kernel
theorem dPr_join_8 : decode cPr_join 8 = .ok (.lconst 0, 1) := by decide +kernel
theorem dPr_join_9 : decode cPr_join 9 = .ok (.invokevirtual 60, 3) := by decide +kernel
theorem dPr_join_12 : decode cPr_join 12 = .ok (.iload_n 2, 1) := by decide +kernel
theorem dPr_join_13 : decode cPr_join 13 = .ok (.ifCond .eq 9, 3) := by decide +kernel
theorem dPr_join_16 : decode cPr_join 16 = .ok (.iload_n 3, 1) := by decide +kernel
theorem dPr_join_17 : decode cPr_join 17 = .ok (.iconst 1, 1) := by decide +kernel
theorem dPr_join_18 : decode cPr_join 18 = .ok (.iadd, 1) := by decide +kernel
theorem dPr_join_19 : decode cPr_join 19 = .ok (.goto 8, 3) := by decide +kernel
theorem dPr_join_22 : decode cPr_join 22 = .ok (.aload_n 0, 1) := by decide +kernel
theorem dPr_join_23 : decode cPr_join 23 = .ok (.iload_n 3, 1) := by decide +kernel
theorem dPr_join_24 : decode cPr_join 24 = .ok (.invokevirtual 38, 3) := by decide +kernel
theorem dPr_join_27 : decode cPr_join 27 = .ok (.istore 4, 2) := by decide +kernel
theorem dPr_join_29 : decode cPr_join 29 = .ok (.aload_n 0, 1) := by decide +kernel
theorem dPr_join_30 : decode cPr_join 30 = .ok (.iload 4, 2) := by decide +kernel
theorem dPr_join_32 : decode cPr_join 32 = .ok (.iload 4, 2) := by decide +kernel
theorem dPr_join_34 : decode cPr_join 34 = .ok (.iconst 1, 1) := by decide +kernel
theorem dPr_join_35 : decode cPr_join 35 = .ok (.iadd, 1) := by decide +kernel
theorem dPr_join_36 : decode cPr_join 36 = .ok (.invokevirtual 56, 3) := by decide +kernel
theorem dPr_join_39 : decode cPr_join 39 = .ok (.aload_n 0, 1) := by decide +kernel
theorem dPr_join_40 : decode cPr_join 40 = .ok (.iload 4, 2) := by decide +kernel
theorem dPr_join_42 : decode cPr_join 42 = .ok (.iconst 0, 1) := by decide +kernel
theorem dPr_join_43 : decode cPr_join 43 = .ok (.iconst 0, 1) := by decide +kernel
theorem dPr_join_44 : decode cPr_join 44 = .ok (.lconst 0, 1) := by decide +kernel
theorem dPr_join_45 : decode cPr_join 45 = .ok (.invokevirtual 48, 3) := by decide +kernel
theorem dPr_join_48 : decode cPr_join 48 = .ok (.aload_n 0, 1) := by decide +kernel
theorem dPr_join_49 : decode cPr_join 49 = .ok (.getfield 22, 3) := by decide +kernel
theorem dPr_join_52 : decode cPr_join 52 = .ok (.iload 4, 2) := by decide +kernel
theorem dPr_join_54 : decode cPr_join 54 = .ok (.aload_n 0, 1) := by decide +kernel
theorem dPr_join_55 : decode cPr_join 55 = .ok (.getfield 22, 3) := by decide +kernel
theorem dPr_join_58 : decode cPr_join 58 = .ok (.iload_n 3, 1) := by decide +kernel
theorem dPr_join_59 : decode cPr_join 59 = .ok (.iaload, 1) := by decide +kernel
theorem dPr_join_60 : decode cPr_join 60 = .ok (.iconst 1, 1) := by decide +kernel
theorem dPr_join_61 : decode cPr_join 61 = .ok (.iadd, 1) := by decide +kernel
theorem dPr_join_62 : decode cPr_join 62 = .ok (.iastore, 1) := by decide +kernel
theorem dPr_join_63 : decode cPr_join 63 = .ok (.aload_n 0, 1) := by decide +kernel
theorem dPr_join_64 : decode cPr_join 64 = .ok (.iload 4, 2) := by decide +kernel
theorem dPr_join_66 : decode cPr_join 66 = .ok (.putfield 29, 3) := by decide +kernel
theorem dPr_join_69 : decode cPr_join 69 = .ok (.return_, 1) := by decide +kernel
def f_Pr_join_J27 (i : Nat) (v1 : Int32) (v2 : Int32) (v3 : Int32) (u0 : Int32) (σ : Mem) : Option (Unit × Mem) :=
  bn (f_Pr_moveTail i u0 (u0 + (1 : Int32)) σ) fun (_ : Unit) (σ2 : Mem) =>
  bn (f_Pr_write i u0 (0 : Int32) (0 : Int32) (0 : Int64) σ2) fun (_ : Unit) (σ4 : Mem) =>
  gd (inb v3 40) (
  gd (inb u0 40) (lt_ (sI σ4 (cPl i) u0.toNatClampNeg ((σ4.1 (cPl i) v3.toNatClampNeg) + (1 : Int32))) fun (σ7 : Mem) =>
  lt_ (sI σ7 (cP i) 5 u0) fun (σ8 : Mem) =>
  some ((), σ8)))
def f_Pr_join (i : Nat) (v1 : Int32) (v2 : Int32) (σ : Mem) : Option (Unit × Mem) :=
  lt_ (σ.1 (cP i) 5) fun (x9 : Int32) =>
  bn (f_Pr_wrap i v1 (0 : Int32) (0 : Int64) σ) fun (_ : Unit) (σ11 : Mem) =>
  if v2 = 0 then (
  bn (f_Pr_end i x9 σ11) fun (r14 : Int32) (σ13 : Mem) =>
  f_Pr_join_J27 i v1 v2 x9 r14 σ13)
  else (
  f_Pr_join_J27 i v1 v2 x9 (x9 + (1 : Int32)) σ11)
set_option maxHeartbeats 4000000 in
set_option maxRecDepth 100000 in
theorem c_Pr_join (l : Launch) (g : Gw) (hg : wInj g) {i : Nat} (hi : i < 17) {v1 : Int32} {v2 : Int32} {σ σ0 : Mem} (h : f_Pr_join i v1 v2 σ = some ((), σ0)) : KV l yPr_join cPr_join 5 none 3 g [.ref (ad g (cP i)), .int v1, .int v2] σ σ0 := by
  refine q_met g hg (own := "TermBench$Program") rfl rfl (Nat.le_of_ble_eq_true rfl) (fun p e s m args below meth c R Q cx hRk hr hQ H locs ls hP hS hl => ?_)
  have hx := cx.1
  have hb := cx.2.1
  have hown := cx.2.2.2.1
  have hts := cx.2.2.2.2.1
  have hl : lv_has ls 5 [(0, .ref (ad g (cP i))), (1, .int v1), (2, .int v2)] := hl
  have J27 : ∀ (v1 : Int32) (v2 : Int32) (v3 : Int32) (u0 : Int32) (σ : Mem), f_Pr_join_J27 i v1 v2 v3 u0 σ = some ((), σ0) → ∀ (H : Heap) (locs : List Loc) (ls : Array Slot), lv_has ls 5 [(0, .ref (ad g (cP i))), (1, .int v1), (2, .int v2), (3, .int v3)] → Wd g σ H → va_S (wA g) s.heap H locs → W p l e R s m args below meth c H locs 0 0 Q (F0 m 27 ls [.int u0]) := by
    intro v1 v2 v3 u0 σ h H locs ls hl hP hS
    unfold f_Pr_join_J27 at h
    refine lv_istore (lv' := [(4, .int u0), (0, .ref (ad g (cP i))), (1, .int v1), (2, .int v2), (3, .int v3)]) hx hb dPr_join_27 hl (Nat.le_of_ble_eq_true rfl) rfl (fun ls hl => ?_)
    refine lv_aload_n hx hb dPr_join_29 rfl (lv_at hl 1 rfl) ?_
    refine lv_iload hx hb dPr_join_30 (lv_at hl 0 rfl) ?_
    refine lv_iload hx hb dPr_join_32 (lv_at hl 0 rfl) ?_
    refine lv_iconst (v := 1) hx hb dPr_join_34 (by decide) ?_
    refine lv_iadd hx hb dPr_join_35 ?_
    obtain ⟨rh1, σ2, h1, h⟩ := bn_some h
    refine q_cVv (rest := []) (As := [.int u0, .int (u0 + (1 : Int32))]) cx hP hS hRk (c_Pr_moveTail l g hg hi h1) Y_Pr_moveTail V_Pr_moveTail t_247 (by decide) (l_cP hi) (e_cP g hi _ _) rfl rfl hl.1 rfl (Nat.le_of_ble_eq_true rfl) dPr_join_36 (fun H locs hP hS => ?_)
    refine lv_aload_n hx hb dPr_join_39 rfl (lv_at hl 1 rfl) ?_
    refine lv_iload hx hb dPr_join_40 (lv_at hl 0 rfl) ?_
    refine lv_iconst (v := 0) hx hb dPr_join_42 (by decide) ?_
    refine lv_iconst (v := 0) hx hb dPr_join_43 (by decide) ?_
    refine lv_lconst (v := 0) hx hb dPr_join_44 rfl ?_
    obtain ⟨rh3, σ4, h3, h⟩ := bn_some h
    refine q_cVv (rest := []) (As := [.int u0, .int (0 : Int32), .int (0 : Int32), .long (0 : Int64)]) cx hP hS hRk (c_Pr_write l g hg hi h3) Y_Pr_write V_Pr_write t_205 (by decide) (l_cP hi) (e_cP g hi _ _) rfl rfl hl.1 rfl (Nat.le_of_ble_eq_true rfl) dPr_join_45 (fun H locs hP hS => ?_)
    refine lv_aload_n hx hb dPr_join_48 rfl (lv_at hl 1 rfl) ?_
    refine g_Pr_levels cx hP hi  t_44 dPr_join_49 ?_
    refine lv_iload hx hb dPr_join_52 (lv_at hl 0 rfl) ?_
    refine lv_aload_n hx hb dPr_join_54 rfl (lv_at hl 1 rfl) ?_
    refine g_Pr_levels cx hP hi  t_44 dPr_join_55 ?_
    refine lv_iload_n hx hb dPr_join_58 rfl (lv_at hl 4 rfl) ?_
    obtain ⟨b5, h⟩ := gd_some h
    refine q_iald cx hP (l_cPl hi) (e_cPl g hi) b5 dPr_join_59 ?_
    refine lv_iconst (v := 1) hx hb dPr_join_60 (by decide) ?_
    refine lv_iadd hx hb dPr_join_61 ?_
    obtain ⟨b6, h⟩ := gd_some h
    obtain ⟨σ7, eσ7, h⟩ := lt_some h
    refine q_iast cx hP hS (l_cPl hi) (e_cPl g hi) b6 dPr_join_62 eσ7 (fun H locs hP hS => ?_)
    refine lv_aload_n hx hb dPr_join_63 rfl (lv_at hl 1 rfl) ?_
    refine lv_iload hx hb dPr_join_64 (lv_at hl 0 rfl) ?_
    obtain ⟨σ8, eσ8, h⟩ := lt_some h
    refine p_Pr_cursor cx hP hS hi t_48 dPr_join_66 eσ8 (fun H locs hP hS => ?_)
    exact q_rv cx hr hP hS hQ h dPr_join_69
  unfold f_Pr_join at h
  refine lv_aload_n hx hb dPr_join_0 rfl (lv_at hl 0 rfl) ?_
  refine g_Pr_cursor cx hP hi  t_48 dPr_join_1 ?_
  obtain ⟨x9, ex9, h⟩ := lt_some h
  refine q_nmi ex9 ?_
  refine lv_istore_n (lv' := [(3, .int x9), (0, .ref (ad g (cP i))), (1, .int v1), (2, .int v2)]) hx hb dPr_join_4 rfl hl (Nat.le_of_ble_eq_true rfl) rfl (fun ls hl => ?_)
  refine lv_aload_n hx hb dPr_join_5 rfl (lv_at hl 1 rfl) ?_
  refine lv_iload_n hx hb dPr_join_6 rfl (lv_at hl 2 rfl) ?_
  refine lv_iconst (v := 0) hx hb dPr_join_7 (by decide) ?_
  refine lv_lconst (v := 0) hx hb dPr_join_8 rfl ?_
  obtain ⟨rh10, σ11, h10, h⟩ := bn_some h
  refine q_cVv (rest := []) (As := [.int v1, .int (0 : Int32), .long (0 : Int64)]) cx hP hS hRk (c_Pr_wrap l g hg hi h10) Y_Pr_wrap V_Pr_wrap t_239 (by decide) (l_cP hi) (e_cP g hi _ _) rfl rfl hl.1 rfl (Nat.le_of_ble_eq_true rfl) dPr_join_9 (fun H locs hP hS => ?_)
  refine lv_iload_n hx hb dPr_join_12 rfl (lv_at hl 3 rfl) ?_
  refine lv_if_eq (tgt := 22) hx hb dPr_join_13 (by decide) (fun hc => ?_) (fun hc => ?_)
  · replace h := if_t h hc
    refine lv_aload_n hx hb dPr_join_22 rfl (lv_at hl 1 rfl) ?_
    refine lv_iload_n hx hb dPr_join_23 rfl (lv_at hl 0 rfl) ?_
    obtain ⟨r14, σ13, h12, h⟩ := bn_some h
    refine q_cVi (rest := []) (As := [.int x9]) cx hP hS hRk (c_Pr_end l g hg hi h12) Y_Pr_end V_Pr_end t_228 (by decide) (l_cP hi) (e_cP g hi _ _) rfl rfl hl.1 rfl (Nat.le_of_ble_eq_true rfl) dPr_join_24 (fun H locs hP hS => ?_)
    exact J27 _ _ _ _ _ h _ _ _ (lv_sub hl [1, 2, 3, 0] rfl) hP hS
  · replace h := if_f h hc
    refine lv_iload_n hx hb dPr_join_16 rfl (lv_at hl 0 rfl) ?_
    refine lv_iconst (v := 1) hx hb dPr_join_17 (by decide) ?_
    refine lv_iadd hx hb dPr_join_18 ?_
    refine lv_goto (tgt := 27) hx hb dPr_join_19 (by decide) ?_
    exact J27 _ _ _ _ _ h _ _ _ (lv_sub hl [1, 2, 3, 0] rfl) hP hS
theorem dPr_empty_0 : decode cPr_empty 0 = .ok (.aload_n 0, 1) := by decide +kernel
theorem dPr_empty_1 : decode cPr_empty 1 = .ok (.aload_n 0, 1) := by decide +kernel
theorem dPr_empty_2 : decode cPr_empty 2 = .ok (.aload_n 0, 1) := by decide +kernel
theorem dPr_empty_3 : decode cPr_empty 3 = .ok (.getfield 29, 3) := by decide +kernel
theorem dPr_empty_6 : decode cPr_empty 6 = .ok (.invokevirtual 38, 3) := by decide +kernel
theorem dPr_empty_9 : decode cPr_empty 9 = .ok (.aload_n 0, 1) := by decide +kernel
theorem dPr_empty_10 : decode cPr_empty 10 = .ok (.getfield 29, 3) := by decide +kernel
theorem dPr_empty_13 : decode cPr_empty 13 = .ok (.iconst 1, 1) := by decide +kernel
theorem dPr_empty_14 : decode cPr_empty 14 = .ok (.iadd, 1) := by decide +kernel
theorem dPr_empty_15 : decode cPr_empty 15 = .ok (.invokevirtual 56, 3) := by decide +kernel
theorem dPr_empty_18 : decode cPr_empty 18 = .ok (.aload_n 0, 1) := by decide +kernel
theorem dPr_empty_19 : decode cPr_empty 19 = .ok (.aload_n 0, 1) := by decide +kernel
theorem dPr_empty_20 : decode cPr_empty 20 = .ok (.getfield 29, 3) := by decide +kernel
theorem dPr_empty_23 : decode cPr_empty 23 = .ok (.iconst 0, 1) := by decide +kernel
theorem dPr_empty_24 : decode cPr_empty 24 = .ok (.iconst 0, 1) := by decide +kernel
theorem dPr_empty_25 : decode cPr_empty 25 = .ok (.lconst 0, 1) := by decide +kernel
theorem dPr_empty_26 : decode cPr_empty 26 = .ok (.invokevirtual 48, 3) := by decide +kernel
theorem dPr_empty_29 : decode cPr_empty 29 = .ok (.return_, 1) := by decide +kernel
def f_Pr_empty (i : Nat)  (σ : Mem) : Option (Unit × Mem) :=
  bn (f_Pr_end i (σ.1 (cP i) 5) σ) fun (r3 : Int32) (σ2 : Mem) =>
  bn (f_Pr_moveTail i r3 ((σ2.1 (cP i) 5) + (1 : Int32)) σ2) fun (_ : Unit) (σ5 : Mem) =>
  bn (f_Pr_write i (σ5.1 (cP i) 5) (0 : Int32) (0 : Int32) (0 : Int64) σ5) fun (_ : Unit) (σ7 : Mem) =>
  some ((), σ7)
set_option maxHeartbeats 4000000 in
set_option maxRecDepth 100000 in
theorem c_Pr_empty (l : Launch) (g : Gw) (hg : wInj g) {i : Nat} (hi : i < 17) {σ σ0 : Mem} (h : f_Pr_empty i σ = some ((), σ0)) : KV l yPr_empty cPr_empty 1 none 2 g [.ref (ad g (cP i))] σ σ0 := by
  refine q_met g hg (own := "TermBench$Program") rfl rfl (Nat.le_of_ble_eq_true rfl) (fun p e s m args below meth c R Q cx hRk hr hQ H locs ls hP hS hl => ?_)
  have hx := cx.1
  have hb := cx.2.1
  have hown := cx.2.2.2.1
  have hts := cx.2.2.2.2.1
  have hl : lv_has ls 1 [(0, .ref (ad g (cP i)))] := hl
  unfold f_Pr_empty at h
  refine lv_aload_n hx hb dPr_empty_0 rfl (lv_at hl 0 rfl) ?_
  refine lv_aload_n hx hb dPr_empty_1 rfl (lv_at hl 0 rfl) ?_
  refine lv_aload_n hx hb dPr_empty_2 rfl (lv_at hl 0 rfl) ?_
  refine g_Pr_cursor cx hP hi  t_48 dPr_empty_3 ?_
  obtain ⟨r3, σ2, h1, h⟩ := bn_some h
  refine q_cVi (rest := [.ref (ad g (cP i))]) (As := [.int (σ.1 (cP i) 5)]) cx hP hS hRk (c_Pr_end l g hg hi h1) Y_Pr_end V_Pr_end t_228 (by decide) (l_cP hi) (e_cP g hi _ _) rfl rfl hl.1 rfl (Nat.le_of_ble_eq_true rfl) dPr_empty_6 (fun H locs hP hS => ?_)
  refine lv_aload_n hx hb dPr_empty_9 rfl (lv_at hl 0 rfl) ?_
  refine g_Pr_cursor cx hP hi  t_48 dPr_empty_10 ?_
  refine lv_iconst (v := 1) hx hb dPr_empty_13 (by decide) ?_
  refine lv_iadd hx hb dPr_empty_14 ?_
  obtain ⟨rh4, σ5, h4, h⟩ := bn_some h
  refine q_cVv (rest := []) (As := [.int r3, .int ((σ2.1 (cP i) 5) + (1 : Int32))]) cx hP hS hRk (c_Pr_moveTail l g hg hi h4) Y_Pr_moveTail V_Pr_moveTail t_247 (by decide) (l_cP hi) (e_cP g hi _ _) rfl rfl hl.1 rfl (Nat.le_of_ble_eq_true rfl) dPr_empty_15 (fun H locs hP hS => ?_)
  refine lv_aload_n hx hb dPr_empty_18 rfl (lv_at hl 0 rfl) ?_
  refine lv_aload_n hx hb dPr_empty_19 rfl (lv_at hl 0 rfl) ?_
  refine g_Pr_cursor cx hP hi  t_48 dPr_empty_20 ?_
  refine lv_iconst (v := 0) hx hb dPr_empty_23 (by decide) ?_
  refine lv_iconst (v := 0) hx hb dPr_empty_24 (by decide) ?_
  refine lv_lconst (v := 0) hx hb dPr_empty_25 rfl ?_
  obtain ⟨rh6, σ7, h6, h⟩ := bn_some h
  refine q_cVv (rest := []) (As := [.int (σ5.1 (cP i) 5), .int (0 : Int32), .int (0 : Int32), .long (0 : Int64)]) cx hP hS hRk (c_Pr_write l g hg hi h6) Y_Pr_write V_Pr_write t_205 (by decide) (l_cP hi) (e_cP g hi _ _) rfl rfl hl.1 rfl (Nat.le_of_ble_eq_true rfl) dPr_empty_26 (fun H locs hP hS => ?_)
  exact q_rv cx hr hP hS hQ h dPr_empty_29
theorem dPr_parent_0 : decode cPr_parent 0 = .ok (.iload_n 1, 1) := by decide +kernel
theorem dPr_parent_1 : decode cPr_parent 1 = .ok (.iconst 1, 1) := by decide +kernel
theorem dPr_parent_2 : decode cPr_parent 2 = .ok (.isub, 1) := by decide +kernel
theorem dPr_parent_3 : decode cPr_parent 3 = .ok (.istore_n 2, 1) := by decide +kernel
theorem dPr_parent_4 : decode cPr_parent 4 = .ok (.iload_n 2, 1) := by decide +kernel
theorem dPr_parent_5 : decode cPr_parent 5 = .ok (.ifCond .lt 26, 3) := by decide +kernel
theorem dPr_parent_8 : decode cPr_parent 8 = .ok (.aload_n 0, 1) := by decide +kernel
theorem dPr_parent_9 : decode cPr_parent 9 = .ok (.getfield 22, 3) := by decide +kernel
theorem dPr_parent_12 : decode cPr_parent 12 = .ok (.iload_n 2, 1) := by decide +kernel
theorem dPr_parent_13 : decode cPr_parent 13 = .ok (.iaload, 1) := by decide +kernel
theorem dPr_parent_14 : decode cPr_parent 14 = .ok (.aload_n 0, 1) := by decide +kernel
theorem dPr_parent_15 : decode cPr_parent 15 = .ok (.getfield 22, 3) := by decide +kernel
theorem dPr_parent_18 : decode cPr_parent 18 = .ok (.iload_n 1, 1) := by decide +kernel
theorem dPr_parent_19 : decode cPr_parent 19 = .ok (.iaload, 1) := by decide +kernel
theorem dPr_parent_20 : decode cPr_parent 20 = .ok (.if_icmp .ge 5, 3) := by decide +kernel
theorem dPr_parent_23 : decode cPr_parent 23 = .ok (.iload_n 2, 1) := by decide +kernel
theorem dPr_parent_24 : decode cPr_parent 24 = .ok (.ireturn, 1) := by decide +kernel
theorem dPr_parent_25 : decode cPr_parent 25 = .ok (.iinc 2 (-1), 3) := by decide +kernel
theorem dPr_parent_28 : decode cPr_parent 28 = .ok (.goto (-24), 3) := by decide +kernel
theorem dPr_parent_31 : decode cPr_parent 31 = .ok (.iconst (-1), 1) := by decide +kernel
theorem dPr_parent_32 : decode cPr_parent 32 = .ok (.ireturn, 1) := by decide +kernel
def f_Pr_parent_L4 (i : Nat) (v1 : Int32) (v2 : Int32) (σ : Mem) : Option ((Int32 × Mem) ⊕ (Int32 × Mem)) :=
  if v2 < 0 then (
  inrM (some (((-1) : Int32), σ)))
  else (
  gd (inb v2 40) (
  gd (inb v1 40) (
  if (σ.1 (cPl i) v1.toNatClampNeg) ≤ (σ.1 (cPl i) v2.toNatClampNeg) then (
  lt_ (v2 + (-1)) fun (x4 : Int32) =>
  some (.inl (x4, σ)))
  else (
  inrM (some (v2, σ))))))
def f_Pr_parent (i : Nat) (v1 : Int32) (σ : Mem) : Option (Int32 × Mem) :=
  lt_ (v1 - (1 : Int32)) fun (x6 : Int32) =>
  loopF (fun (q : (Int32 × Mem)) => f_Pr_parent_L4 i v1 q.1 q.2) FU (x6, σ)
set_option maxHeartbeats 4000000 in
set_option maxRecDepth 100000 in
theorem c_Pr_parent (l : Launch) (g : Gw) (hg : wInj g) {i : Nat} (hi : i < 17) {v1 : Int32} {r0 : Int32} {σ σ0 : Mem} (h : f_Pr_parent i v1 σ = some (r0, σ0)) : KI l yPr_parent cPr_parent 3 (some .int) 0 g [.ref (ad g (cP i)), .int v1] σ r0 σ0 := by
  refine q_met g hg (own := "TermBench$Program") rfl rfl (Nat.le_of_ble_eq_true rfl) (fun p e s m args below meth c R Q cx hRk hr hQ H locs ls hP hS hl => ?_)
  have hx := cx.1
  have hb := cx.2.1
  have hown := cx.2.2.2.1
  have hts := cx.2.2.2.2.1
  have hl : lv_has ls 3 [(0, .ref (ad g (cP i))), (1, .int v1)] := hl
  unfold f_Pr_parent at h
  refine lv_iload_n hx hb dPr_parent_0 rfl (lv_at hl 1 rfl) ?_
  refine lv_iconst (v := 1) hx hb dPr_parent_1 (by decide) ?_
  refine lv_isub hx hb dPr_parent_2 ?_
  obtain ⟨x6, ex6, h⟩ := lt_some h
  refine q_nmi ex6 ?_
  refine lv_istore_n (lv' := [(2, .int x6), (0, .ref (ad g (cP i))), (1, .int v1)]) hx hb dPr_parent_3 rfl hl (Nat.le_of_ble_eq_true rfl) rfl (fun ls hl => ?_)
  have L4 : ∀ (n : Nat) (v1 : Int32) (v2 : Int32) (σ : Mem), loopF (fun (q : (Int32 × Mem)) => f_Pr_parent_L4 i v1 q.1 q.2) n (v2, σ) = some (r0, σ0) → ∀ (H : Heap) (locs : List Loc) (ls : Array Slot), lv_has ls 3 [(0, .ref (ad g (cP i))), (1, .int v1), (2, .int v2)] → Wd g σ H → va_S (wA g) s.heap H locs → W p l e R s m args below meth c H locs 0 0 Q (F0 m 4 ls []) := by
    intro n
    induction n with
    | zero => intro v1 v2 σ h; exact (loopF_zero h).elim
    | succ n ih4 =>
      intro v1 v2 σ h H locs ls hl hP hS
      obtain ⟨o4, h, K4, E4⟩ := loopF_succ h
      have h : f_Pr_parent_L4 i v1 v2 σ = some o4 := h
      unfold f_Pr_parent_L4 at h
      refine lv_iload_n hx hb dPr_parent_4 rfl (lv_at hl 2 rfl) ?_
      refine lv_if_lt (tgt := 31) hx hb dPr_parent_5 (by decide) (fun hc => ?_) (fun hc => ?_)
      · replace h := if_t h hc
        obtain ⟨z1, h, ez1⟩ := inrM_some h
        rw [E4 z1 ez1] at h
        refine lv_iconst (v := (-1)) hx hb dPr_parent_31 (by decide) ?_
        exact q_ri cx hr rfl hP hS hQ h dPr_parent_32
      · replace h := if_f h hc
        refine lv_aload_n hx hb dPr_parent_8 rfl (lv_at hl 0 rfl) ?_
        refine g_Pr_levels cx hP hi  t_44 dPr_parent_9 ?_
        refine lv_iload_n hx hb dPr_parent_12 rfl (lv_at hl 2 rfl) ?_
        obtain ⟨b2, h⟩ := gd_some h
        refine q_iald cx hP (l_cPl hi) (e_cPl g hi) b2 dPr_parent_13 ?_
        refine lv_aload_n hx hb dPr_parent_14 rfl (lv_at hl 0 rfl) ?_
        refine g_Pr_levels cx hP hi  t_44 dPr_parent_15 ?_
        refine lv_iload_n hx hb dPr_parent_18 rfl (lv_at hl 1 rfl) ?_
        obtain ⟨b3, h⟩ := gd_some h
        refine q_iald cx hP (l_cPl hi) (e_cPl g hi) b3 dPr_parent_19 ?_
        refine lv_icmp_ge (tgt := 25) hx hb dPr_parent_20 (by decide) (fun hc => ?_) (fun hc => ?_)
        · replace h := if_t h hc
          obtain ⟨x4, ex4, h⟩ := lt_some h
          refine lv_iinc (lv' := [(2, .int x4), (0, .ref (ad g (cP i))), (1, .int v1)]) hx hb dPr_parent_25 hl (k := 2) rfl (q_inc ex4 (by decide)) (Nat.le_of_ble_eq_true rfl) rfl (fun ls hl => ?_)
          refine lv_goto (tgt := 4) hx hb dPr_parent_28 (by decide) ?_
          exact ih4 _ _ _ (K4 _ (Option.some.inj h).symm) _ _ _ (lv_sub hl [1, 2, 0] rfl) hP hS
        · replace h := if_f h hc
          obtain ⟨z5, h, ez5⟩ := inrM_some h
          rw [E4 z5 ez5] at h
          refine lv_iload_n hx hb dPr_parent_23 rfl (lv_at hl 2 rfl) ?_
          exact q_ri cx hr rfl hP hS hQ h dPr_parent_24
  exact L4 _ _ _ _ h _ _ _ (lv_sub hl [1, 2, 0] rfl) hP hS
theorem dPr_raise_0 : decode cPr_raise 0 = .ok (.aload_n 0, 1) := by decide +kernel
theorem dPr_raise_1 : decode cPr_raise 1 = .ok (.aload_n 0, 1) := by decide +kernel
theorem dPr_raise_2 : decode cPr_raise 2 = .ok (.getfield 29, 3) := by decide +kernel
theorem dPr_raise_5 : decode cPr_raise 5 = .ok (.invokevirtual 64, 3) := by decide +kernel
theorem dPr_raise_8 : decode cPr_raise 8 = .ok (.istore_n 1, 1) := by decide +kernel
theorem dPr_raise_9 : decode cPr_raise 9 = .ok (.iload_n 1, 1) := by decide +kernel
theorem dPr_raise_10 : decode cPr_raise 10 = .ok (.ifCond .ge 4, 3) := by decide +kernel
theorem dPr_raise_13 : decode cPr_raise 13 = .ok (.return_, 1) := by decide +kernel
theorem dPr_raise_14 : decode cPr_raise 14 = .ok (.aload_n 0, 1) := by decide +kernel
theorem dPr_raise_15 : decode cPr_raise 15 = .ok (.aload_n 0, 1) := by decide +kernel
theorem dPr_raise_16 : decode cPr_raise 16 = .ok (.getfield 29, 3) := by decide +kernel
theorem dPr_raise_19 : decode cPr_raise 19 = .ok (.invokevirtual 38, 3) := by decide +kernel
theorem dPr_raise_22 : decode cPr_raise 22 = .ok (.istore_n 2, 1) := by decide +kernel
theorem dPr_raise_23 : decode cPr_raise 23 = .ok (.aload_n 0, 1) := by decide +kernel
theorem dPr_raise_24 : decode cPr_raise 24 = .ok (.aload_n 0, 1) := by decide +kernel
theorem dPr_raise_25 : decode cPr_raise 25 = .ok (.iload_n 1, 1) := by decide +kernel
theorem dPr_raise_26 : decode cPr_raise 26 = .ok (.invokevirtual 38, 3) := by decide +kernel
theorem dPr_raise_29 : decode cPr_raise 29 = .ok (.iload_n 2, 1) := by decide +kernel
theorem dPr_raise_30 : decode cPr_raise 30 = .ok (.invokevirtual 56, 3) := by decide +kernel
theorem dPr_raise_33 : decode cPr_raise 33 = .ok (.aload_n 0, 1) := by decide +kernel
theorem dPr_raise_34 : decode cPr_raise 34 = .ok (.aload_n 0, 1) := by decide +kernel
theorem dPr_raise_35 : decode cPr_raise 35 = .ok (.getfield 29, 3) := by decide +kernel
theorem dPr_raise_38 : decode cPr_raise 38 = .ok (.iload_n 2, 1) := by decide +kernel
theorem dPr_raise_39 : decode cPr_raise 39 = .ok (.iconst (-1), 1) := by decide +kernel
theorem dPr_raise_40 : decode cPr_raise 40 = .ok (.invokevirtual 52, 3) := by decide +kernel
theorem dPr_raise_43 : decode cPr_raise 43 = .ok (.aload_n 0, 1) := by decide +kernel
theorem dPr_raise_44 : decode cPr_raise 44 = .ok (.aload_n 0, 1) := by decide +kernel
theorem dPr_raise_45 : decode cPr_raise 45 = .ok (.getfield 29, 3) := by decide +kernel
theorem dPr_raise_48 : decode cPr_raise 48 = .ok (.iload_n 1, 1) := by decide +kernel
theorem dPr_raise_49 : decode cPr_raise 49 = .ok (.invokevirtual 56, 3) := by decide +kernel
theorem dPr_raise_52 : decode cPr_raise 52 = .ok (.aload_n 0, 1) := by decide +kernel
theorem dPr_raise_53 : decode cPr_raise 53 = .ok (.iload_n 1, 1) := by decide +kernel
theorem dPr_raise_54 : decode cPr_raise 54 = .ok (.putfield 29, 3) := by decide +kernel
theorem dPr_raise_57 : decode cPr_raise 57 = .ok (.return_, 1) := by decide +kernel
def f_Pr_raise (i : Nat)  (σ : Mem) : Option (Unit × Mem) :=
  bn (f_Pr_parent i (σ.1 (cP i) 5) σ) fun (r3 : Int32) (σ2 : Mem) =>
  if 0 ≤ r3 then (
  bn (f_Pr_end i (σ2.1 (cP i) 5) σ2) fun (r6 : Int32) (σ5 : Mem) =>
  bn (f_Pr_end i r3 σ5) fun (r9 : Int32) (σ8 : Mem) =>
  bn (f_Pr_moveTail i r9 r6 σ8) fun (_ : Unit) (σ11 : Mem) =>
  bn (f_Pr_shiftLevels i (σ11.1 (cP i) 5) r6 ((-1) : Int32) σ11) fun (_ : Unit) (σ13 : Mem) =>
  bn (f_Pr_moveTail i (σ13.1 (cP i) 5) r3 σ13) fun (_ : Unit) (σ15 : Mem) =>
  lt_ (sI σ15 (cP i) 5 r3) fun (σ16 : Mem) =>
  some ((), σ16))
  else (
  some ((), σ2))
set_option maxHeartbeats 4000000 in
set_option maxRecDepth 100000 in
theorem c_Pr_raise (l : Launch) (g : Gw) (hg : wInj g) {i : Nat} (hi : i < 17) {σ σ0 : Mem} (h : f_Pr_raise i σ = some ((), σ0)) : KV l yPr_raise cPr_raise 3 none 2 g [.ref (ad g (cP i))] σ σ0 := by
  refine q_met g hg (own := "TermBench$Program") rfl rfl (Nat.le_of_ble_eq_true rfl) (fun p e s m args below meth c R Q cx hRk hr hQ H locs ls hP hS hl => ?_)
  have hx := cx.1
  have hb := cx.2.1
  have hown := cx.2.2.2.1
  have hts := cx.2.2.2.2.1
  have hl : lv_has ls 3 [(0, .ref (ad g (cP i)))] := hl
  unfold f_Pr_raise at h
  refine lv_aload_n hx hb dPr_raise_0 rfl (lv_at hl 0 rfl) ?_
  refine lv_aload_n hx hb dPr_raise_1 rfl (lv_at hl 0 rfl) ?_
  refine g_Pr_cursor cx hP hi  t_48 dPr_raise_2 ?_
  obtain ⟨r3, σ2, h1, h⟩ := bn_some h
  refine q_cVi (rest := []) (As := [.int (σ.1 (cP i) 5)]) cx hP hS hRk (c_Pr_parent l g hg hi h1) Y_Pr_parent V_Pr_parent t_290 (by decide) (l_cP hi) (e_cP g hi _ _) rfl rfl hl.1 rfl (Nat.le_of_ble_eq_true rfl) dPr_raise_5 (fun H locs hP hS => ?_)
  refine lv_istore_n (lv' := [(1, .int r3), (0, .ref (ad g (cP i)))]) hx hb dPr_raise_8 rfl hl (Nat.le_of_ble_eq_true rfl) rfl (fun ls hl => ?_)
  refine lv_iload_n hx hb dPr_raise_9 rfl (lv_at hl 0 rfl) ?_
  refine lv_if_ge (tgt := 14) hx hb dPr_raise_10 (by decide) (fun hc => ?_) (fun hc => ?_)
  · replace h := if_t h hc
    refine lv_aload_n hx hb dPr_raise_14 rfl (lv_at hl 1 rfl) ?_
    refine lv_aload_n hx hb dPr_raise_15 rfl (lv_at hl 1 rfl) ?_
    refine g_Pr_cursor cx hP hi  t_48 dPr_raise_16 ?_
    obtain ⟨r6, σ5, h4, h⟩ := bn_some h
    refine q_cVi (rest := []) (As := [.int (σ2.1 (cP i) 5)]) cx hP hS hRk (c_Pr_end l g hg hi h4) Y_Pr_end V_Pr_end t_228 (by decide) (l_cP hi) (e_cP g hi _ _) rfl rfl hl.1 rfl (Nat.le_of_ble_eq_true rfl) dPr_raise_19 (fun H locs hP hS => ?_)
    refine lv_istore_n (lv' := [(2, .int r6), (1, .int r3), (0, .ref (ad g (cP i)))]) hx hb dPr_raise_22 rfl hl (Nat.le_of_ble_eq_true rfl) rfl (fun ls hl => ?_)
    refine lv_aload_n hx hb dPr_raise_23 rfl (lv_at hl 2 rfl) ?_
    refine lv_aload_n hx hb dPr_raise_24 rfl (lv_at hl 2 rfl) ?_
    refine lv_iload_n hx hb dPr_raise_25 rfl (lv_at hl 1 rfl) ?_
    obtain ⟨r9, σ8, h7, h⟩ := bn_some h
    refine q_cVi (rest := [.ref (ad g (cP i))]) (As := [.int r3]) cx hP hS hRk (c_Pr_end l g hg hi h7) Y_Pr_end V_Pr_end t_228 (by decide) (l_cP hi) (e_cP g hi _ _) rfl rfl hl.1 rfl (Nat.le_of_ble_eq_true rfl) dPr_raise_26 (fun H locs hP hS => ?_)
    refine lv_iload_n hx hb dPr_raise_29 rfl (lv_at hl 0 rfl) ?_
    obtain ⟨rh10, σ11, h10, h⟩ := bn_some h
    refine q_cVv (rest := []) (As := [.int r9, .int r6]) cx hP hS hRk (c_Pr_moveTail l g hg hi h10) Y_Pr_moveTail V_Pr_moveTail t_247 (by decide) (l_cP hi) (e_cP g hi _ _) rfl rfl hl.1 rfl (Nat.le_of_ble_eq_true rfl) dPr_raise_30 (fun H locs hP hS => ?_)
    refine lv_aload_n hx hb dPr_raise_33 rfl (lv_at hl 2 rfl) ?_
    refine lv_aload_n hx hb dPr_raise_34 rfl (lv_at hl 2 rfl) ?_
    refine g_Pr_cursor cx hP hi  t_48 dPr_raise_35 ?_
    refine lv_iload_n hx hb dPr_raise_38 rfl (lv_at hl 0 rfl) ?_
    refine lv_iconst (v := (-1)) hx hb dPr_raise_39 (by decide) ?_
    obtain ⟨rh12, σ13, h12, h⟩ := bn_some h
    refine q_cVv (rest := []) (As := [.int (σ11.1 (cP i) 5), .int r6, .int ((-1) : Int32)]) cx hP hS hRk (c_Pr_shiftLevels l g hg hi h12) Y_Pr_shiftLevels V_Pr_shiftLevels t_243 (by decide) (l_cP hi) (e_cP g hi _ _) rfl rfl hl.1 rfl (Nat.le_of_ble_eq_true rfl) dPr_raise_40 (fun H locs hP hS => ?_)
    refine lv_aload_n hx hb dPr_raise_43 rfl (lv_at hl 2 rfl) ?_
    refine lv_aload_n hx hb dPr_raise_44 rfl (lv_at hl 2 rfl) ?_
    refine g_Pr_cursor cx hP hi  t_48 dPr_raise_45 ?_
    refine lv_iload_n hx hb dPr_raise_48 rfl (lv_at hl 1 rfl) ?_
    obtain ⟨rh14, σ15, h14, h⟩ := bn_some h
    refine q_cVv (rest := []) (As := [.int (σ13.1 (cP i) 5), .int r3]) cx hP hS hRk (c_Pr_moveTail l g hg hi h14) Y_Pr_moveTail V_Pr_moveTail t_247 (by decide) (l_cP hi) (e_cP g hi _ _) rfl rfl hl.1 rfl (Nat.le_of_ble_eq_true rfl) dPr_raise_49 (fun H locs hP hS => ?_)
    refine lv_aload_n hx hb dPr_raise_52 rfl (lv_at hl 2 rfl) ?_
    refine lv_iload_n hx hb dPr_raise_53 rfl (lv_at hl 1 rfl) ?_
    obtain ⟨σ16, eσ16, h⟩ := lt_some h
    refine p_Pr_cursor cx hP hS hi t_48 dPr_raise_54 eσ16 (fun H locs hP hS => ?_)
    exact q_rv cx hr hP hS hQ h dPr_raise_57
  · replace h := if_f h hc
    exact q_rv cx hr hP hS hQ h dPr_raise_13
theorem dPr_part_0 : decode cPr_part 0 = .ok (.iconst 0, 1) := by decide +kernel
theorem dPr_part_1 : decode cPr_part 1 = .ok (.istore_n 3, 1) := by decide +kernel
theorem dPr_part_2 : decode cPr_part 2 = .ok (.iload_n 1, 1) := by decide +kernel
theorem dPr_part_3 : decode cPr_part 3 = .ok (.iconst 1, 1) := by decide +kernel
theorem dPr_part_4 : decode cPr_part 4 = .ok (.iadd, 1) := by decide +kernel
theorem dPr_part_5 : decode cPr_part 5 = .ok (.istore 4, 2) := by decide +kernel
theorem dPr_part_7 : decode cPr_part 7 = .ok (.iload 4, 2) := by decide +kernel
theorem dPr_part_9 : decode cPr_part 9 = .ok (.aload_n 0, 1) := by decide +kernel
theorem dPr_part_10 : decode cPr_part 10 = .ok (.getfield 25, 3) := by decide +kernel
theorem dPr_part_13 : decode cPr_part 13 = .ok (.if_icmp .ge 54, 3) := by decide +kernel
theorem dPr_part_16 : decode cPr_part 16 = .ok (.aload_n 0, 1) := by decide +kernel
theorem dPr_part_17 : decode cPr_part 17 = .ok (.getfield 22, 3) := by decide +kernel
theorem dPr_part_20 : decode cPr_part 20 = .ok (.iload 4, 2) := by decide +kernel
theorem dPr_part_22 : decode cPr_part 22 = .ok (.iaload, 1) := by decide +kernel
theorem dPr_part_23 : decode cPr_part 23 = .ok (.aload_n 0, 1) := by decide +kernel
theorem dPr_part_24 : decode cPr_part 24 = .ok (.getfield 22, 3) := by decide +kernel
theorem dPr_part_27 : decode cPr_part 27 = .ok (.iload_n 1, 1) := by decide +kernel
theorem dPr_part_28 : decode cPr_part 28 = .ok (.iaload, 1) := by decide +kernel
theorem dPr_part_29 : decode cPr_part 29 = .ok (.if_icmp .le 38, 3) := by decide +kernel
theorem dPr_part_32 : decode cPr_part 32 = .ok (.aload_n 0, 1) := by decide +kernel
theorem dPr_part_33 : decode cPr_part 33 = .ok (.getfield 22, 3) := by decide +kernel
theorem dPr_part_36 : decode cPr_part 36 = .ok (.iload 4, 2) := by decide +kernel
theorem dPr_part_38 : decode cPr_part 38 = .ok (.iaload, 1) := by decide +kernel
theorem dPr_part_39 : decode cPr_part 39 = .ok (.aload_n 0, 1) := by decide +kernel
theorem dPr_part_40 : decode cPr_part 40 = .ok (.getfield 22, 3) := by decide +kernel
theorem dPr_part_43 : decode cPr_part 43 = .ok (.iload_n 1, 1) := by decide +kernel
theorem dPr_part_44 : decode cPr_part 44 = .ok (.iaload, 1) := by decide +kernel
theorem dPr_part_45 : decode cPr_part 45 = .ok (.iconst 1, 1) := by decide +kernel
theorem dPr_part_46 : decode cPr_part 46 = .ok (.iadd, 1) := by decide +kernel
theorem dPr_part_47 : decode cPr_part 47 = .ok (.if_icmp .ne 14, 3) := by decide +kernel
theorem dPr_part_50 : decode cPr_part 50 = .ok (.iload_n 3, 1) := by decide +kernel
theorem dPr_part_51 : decode cPr_part 51 = .ok (.iload_n 2, 1) := by decide +kernel
theorem dPr_part_52 : decode cPr_part 52 = .ok (.if_icmp .ne 6, 3) := by decide +kernel
theorem dPr_part_55 : decode cPr_part 55 = .ok (.iload 4, 2) := by decide +kernel
theorem dPr_part_57 : decode cPr_part 57 = .ok (.ireturn, 1) := by decide +kernel
theorem dPr_part_58 : decode cPr_part 58 = .ok (.iinc 3 1, 3) := by decide +kernel
theorem dPr_part_61 : decode cPr_part 61 = .ok (.iinc 4 1, 3) := by decide +kernel
theorem dPr_part_64 : decode cPr_part 64 = .ok (.goto (-57), 3) := by decide +kernel
theorem dPr_part_67 : decode cPr_part 67 = .ok (.iconst (-1), 1) := by decide +kernel
theorem dPr_part_68 : decode cPr_part 68 = .ok (.ireturn, 1) := by decide +kernel
def f_Pr_part_J67 (i : Nat) (v1 : Int32) (v2 : Int32) (v3 : Int32) (v4 : Int32) (σ : Mem) : Option (Int32 × Mem) :=
  some (((-1) : Int32), σ)
def f_Pr_part_J61 (i : Nat) (v1 : Int32) (v2 : Int32) (v3 : Int32) (v4 : Int32) (σ : Mem) : Option ((Int32 × Int32 × Mem) ⊕ (Int32 × Mem)) :=
  lt_ (v4 + 1) fun (x1 : Int32) =>
  some (.inl (v3, x1, σ))
def f_Pr_part_L7 (i : Nat) (v1 : Int32) (v2 : Int32) (v3 : Int32) (v4 : Int32) (σ : Mem) : Option ((Int32 × Int32 × Mem) ⊕ (Int32 × Mem)) :=
  if (σ.1 (cP i) 4) ≤ v4 then (
  inrM (f_Pr_part_J67 i v1 v2 v3 v4 σ))
  else (
  gd (inb v4 40) (
  gd (inb v1 40) (
  if (σ.1 (cPl i) v4.toNatClampNeg) ≤ (σ.1 (cPl i) v1.toNatClampNeg) then (
  inrM (f_Pr_part_J67 i v1 v2 v3 v4 σ))
  else (
  gd (inb v4 40) (
  gd (inb v1 40) (
  if (σ.1 (cPl i) v4.toNatClampNeg) = ((σ.1 (cPl i) v1.toNatClampNeg) + (1 : Int32)) then (
  if v3 = v2 then (
  inrM (some (v4, σ)))
  else (
  lt_ (v3 + 1) fun (x8 : Int32) =>
  f_Pr_part_J61 i v1 v2 x8 v4 σ))
  else (
  f_Pr_part_J61 i v1 v2 v3 v4 σ)))))))
def f_Pr_part (i : Nat) (v1 : Int32) (v2 : Int32) (σ : Mem) : Option (Int32 × Mem) :=
  lt_ (0 : Int32) fun (x10 : Int32) =>
  lt_ (v1 + (1 : Int32)) fun (x11 : Int32) =>
  loopF (fun (q : (Int32 × Int32 × Mem)) => f_Pr_part_L7 i v1 v2 q.1 q.2.1 q.2.2) FU (x10, x11, σ)
set_option maxHeartbeats 4000000 in
set_option maxRecDepth 100000 in
theorem c_Pr_part (l : Launch) (g : Gw) (hg : wInj g) {i : Nat} (hi : i < 17) {v1 : Int32} {v2 : Int32} {r0 : Int32} {σ σ0 : Mem} (h : f_Pr_part i v1 v2 σ = some (r0, σ0)) : KI l yPr_part cPr_part 5 (some .int) 0 g [.ref (ad g (cP i)), .int v1, .int v2] σ r0 σ0 := by
  refine q_met g hg (own := "TermBench$Program") rfl rfl (Nat.le_of_ble_eq_true rfl) (fun p e s m args below meth c R Q cx hRk hr hQ H locs ls hP hS hl => ?_)
  have hx := cx.1
  have hb := cx.2.1
  have hown := cx.2.2.2.1
  have hts := cx.2.2.2.2.1
  have hl : lv_has ls 5 [(0, .ref (ad g (cP i))), (1, .int v1), (2, .int v2)] := hl
  have J67 : ∀ (v1 : Int32) (v2 : Int32) (v3 : Int32) (v4 : Int32) (σ : Mem), f_Pr_part_J67 i v1 v2 v3 v4 σ = some (r0, σ0) → ∀ (H : Heap) (locs : List Loc) (ls : Array Slot), lv_has ls 5 [(0, .ref (ad g (cP i))), (1, .int v1), (2, .int v2), (3, .int v3), (4, .int v4)] → Wd g σ H → va_S (wA g) s.heap H locs → W p l e R s m args below meth c H locs 0 0 Q (F0 m 67 ls []) := by
    intro v1 v2 v3 v4 σ h H locs ls hl hP hS
    unfold f_Pr_part_J67 at h
    refine lv_iconst (v := (-1)) hx hb dPr_part_67 (by decide) ?_
    exact q_ri cx hr rfl hP hS hQ h dPr_part_68
  unfold f_Pr_part at h
  refine lv_iconst (v := 0) hx hb dPr_part_0 (by decide) ?_
  obtain ⟨x10, ex10, h⟩ := lt_some h
  refine q_nmi ex10 ?_
  refine lv_istore_n (lv' := [(3, .int x10), (0, .ref (ad g (cP i))), (1, .int v1), (2, .int v2)]) hx hb dPr_part_1 rfl hl (Nat.le_of_ble_eq_true rfl) rfl (fun ls hl => ?_)
  refine lv_iload_n hx hb dPr_part_2 rfl (lv_at hl 2 rfl) ?_
  refine lv_iconst (v := 1) hx hb dPr_part_3 (by decide) ?_
  refine lv_iadd hx hb dPr_part_4 ?_
  obtain ⟨x11, ex11, h⟩ := lt_some h
  refine q_nmi ex11 ?_
  refine lv_istore (lv' := [(4, .int x11), (3, .int x10), (0, .ref (ad g (cP i))), (1, .int v1), (2, .int v2)]) hx hb dPr_part_5 hl (Nat.le_of_ble_eq_true rfl) rfl (fun ls hl => ?_)
  have L7 : ∀ (n : Nat) (v1 : Int32) (v2 : Int32) (v3 : Int32) (v4 : Int32) (σ : Mem), loopF (fun (q : (Int32 × Int32 × Mem)) => f_Pr_part_L7 i v1 v2 q.1 q.2.1 q.2.2) n (v3, v4, σ) = some (r0, σ0) → ∀ (H : Heap) (locs : List Loc) (ls : Array Slot), lv_has ls 5 [(0, .ref (ad g (cP i))), (1, .int v1), (2, .int v2), (3, .int v3), (4, .int v4)] → Wd g σ H → va_S (wA g) s.heap H locs → W p l e R s m args below meth c H locs 0 0 Q (F0 m 7 ls []) := by
    intro n
    induction n with
    | zero => intro v1 v2 v3 v4 σ h; exact (loopF_zero h).elim
    | succ n ih7 =>
      intro v1 v2 v3 v4 σ h H locs ls hl hP hS
      obtain ⟨o7, h, K7, E7⟩ := loopF_succ h
      have h : f_Pr_part_L7 i v1 v2 v3 v4 σ = some o7 := h
      have J61 : ∀ (v3 : Int32) (v4 : Int32) (σ : Mem), f_Pr_part_J61 i v1 v2 v3 v4 σ = some o7 → ∀ (H : Heap) (locs : List Loc) (ls : Array Slot), lv_has ls 5 [(0, .ref (ad g (cP i))), (1, .int v1), (2, .int v2), (3, .int v3), (4, .int v4)] → Wd g σ H → va_S (wA g) s.heap H locs → W p l e R s m args below meth c H locs 0 0 Q (F0 m 61 ls []) := by
        intro v3 v4 σ h H locs ls hl hP hS
        unfold f_Pr_part_J61 at h
        obtain ⟨x1, ex1, h⟩ := lt_some h
        refine lv_iinc (lv' := [(4, .int x1), (0, .ref (ad g (cP i))), (1, .int v1), (2, .int v2), (3, .int v3)]) hx hb dPr_part_61 hl (k := 4) rfl (q_inc ex1 (by decide)) (Nat.le_of_ble_eq_true rfl) rfl (fun ls hl => ?_)
        refine lv_goto (tgt := 7) hx hb dPr_part_64 (by decide) ?_
        exact ih7 _ _ _ _ _ (K7 _ (Option.some.inj h).symm) _ _ _ (lv_sub hl [1, 2, 3, 4, 0] rfl) hP hS
      unfold f_Pr_part_L7 at h
      refine lv_iload hx hb dPr_part_7 (lv_at hl 4 rfl) ?_
      refine lv_aload_n hx hb dPr_part_9 rfl (lv_at hl 0 rfl) ?_
      refine g_Pr_size cx hP hi  t_45 dPr_part_10 ?_
      refine lv_icmp_ge (tgt := 67) hx hb dPr_part_13 (by decide) (fun hc => ?_) (fun hc => ?_)
      · replace h := if_t h hc
        obtain ⟨z2, h, ez2⟩ := inrM_some h
        rw [E7 z2 ez2] at h
        exact J67 _ _ _ _ _ h _ _ _ (lv_sub hl [0, 1, 2, 3, 4] rfl) hP hS
      · replace h := if_f h hc
        refine lv_aload_n hx hb dPr_part_16 rfl (lv_at hl 0 rfl) ?_
        refine g_Pr_levels cx hP hi  t_44 dPr_part_17 ?_
        refine lv_iload hx hb dPr_part_20 (lv_at hl 4 rfl) ?_
        obtain ⟨b3, h⟩ := gd_some h
        refine q_iald cx hP (l_cPl hi) (e_cPl g hi) b3 dPr_part_22 ?_
        refine lv_aload_n hx hb dPr_part_23 rfl (lv_at hl 0 rfl) ?_
        refine g_Pr_levels cx hP hi  t_44 dPr_part_24 ?_
        refine lv_iload_n hx hb dPr_part_27 rfl (lv_at hl 1 rfl) ?_
        obtain ⟨b4, h⟩ := gd_some h
        refine q_iald cx hP (l_cPl hi) (e_cPl g hi) b4 dPr_part_28 ?_
        refine lv_icmp_le (tgt := 67) hx hb dPr_part_29 (by decide) (fun hc => ?_) (fun hc => ?_)
        · replace h := if_t h hc
          obtain ⟨z5, h, ez5⟩ := inrM_some h
          rw [E7 z5 ez5] at h
          exact J67 _ _ _ _ _ h _ _ _ (lv_sub hl [0, 1, 2, 3, 4] rfl) hP hS
        · replace h := if_f h hc
          refine lv_aload_n hx hb dPr_part_32 rfl (lv_at hl 0 rfl) ?_
          refine g_Pr_levels cx hP hi  t_44 dPr_part_33 ?_
          refine lv_iload hx hb dPr_part_36 (lv_at hl 4 rfl) ?_
          obtain ⟨b6, h⟩ := gd_some h
          refine q_iald cx hP (l_cPl hi) (e_cPl g hi) b6 dPr_part_38 ?_
          refine lv_aload_n hx hb dPr_part_39 rfl (lv_at hl 0 rfl) ?_
          refine g_Pr_levels cx hP hi  t_44 dPr_part_40 ?_
          refine lv_iload_n hx hb dPr_part_43 rfl (lv_at hl 1 rfl) ?_
          obtain ⟨b7, h⟩ := gd_some h
          refine q_iald cx hP (l_cPl hi) (e_cPl g hi) b7 dPr_part_44 ?_
          refine lv_iconst (v := 1) hx hb dPr_part_45 (by decide) ?_
          refine lv_iadd hx hb dPr_part_46 ?_
          refine lv_icmp_ne (tgt := 61) hx hb dPr_part_47 (by decide) (fun hc => ?_) (fun hc => ?_)
          · replace h := if_f h hc
            exact J61 _ _ _ h _ _ _ (lv_sub hl [0, 1, 2, 3, 4] rfl) hP hS
          · replace h := if_t h hc
            refine lv_iload_n hx hb dPr_part_50 rfl (lv_at hl 3 rfl) ?_
            refine lv_iload_n hx hb dPr_part_51 rfl (lv_at hl 2 rfl) ?_
            refine lv_icmp_ne (tgt := 58) hx hb dPr_part_52 (by decide) (fun hc => ?_) (fun hc => ?_)
            · replace h := if_f h hc
              obtain ⟨x8, ex8, h⟩ := lt_some h
              refine lv_iinc (lv' := [(3, .int x8), (0, .ref (ad g (cP i))), (1, .int v1), (2, .int v2), (4, .int v4)]) hx hb dPr_part_58 hl (k := 3) rfl (q_inc ex8 (by decide)) (Nat.le_of_ble_eq_true rfl) rfl (fun ls hl => ?_)
              exact J61 _ _ _ h _ _ _ (lv_sub hl [1, 2, 3, 0, 4] rfl) hP hS
            · replace h := if_t h hc
              obtain ⟨z9, h, ez9⟩ := inrM_some h
              rw [E7 z9 ez9] at h
              refine lv_iload hx hb dPr_part_55 (lv_at hl 4 rfl) ?_
              exact q_ri cx hr rfl hP hS hQ h dPr_part_57
  exact L7 _ _ _ _ _ _ h _ _ _ (lv_sub hl [2, 3, 4, 1, 0] rfl) hP hS
theorem dPr_binder_0 : decode cPr_binder 0 = .ok (.aload_n 0, 1) := by decide +kernel
theorem dPr_binder_1 : decode cPr_binder 1 = .ok (.getfield 22, 3) := by decide +kernel
theorem dPr_binder_4 : decode cPr_binder 4 = .ok (.iload_n 1, 1) := by decide +kernel
theorem dPr_binder_5 : decode cPr_binder 5 = .ok (.iaload, 1) := by decide +kernel
theorem dPr_binder_6 : decode cPr_binder 6 = .ok (.istore_n 2, 1) := by decide +kernel
theorem dPr_binder_7 : decode cPr_binder 7 = .ok (.iload_n 1, 1) := by decide +kernel
theorem dPr_binder_8 : decode cPr_binder 8 = .ok (.iconst 1, 1) := by decide +kernel
theorem dPr_binder_9 : decode cPr_binder 9 = .ok (.isub, 1) := by decide +kernel
theorem dPr_binder_10 : decode cPr_binder 10 = .ok (.istore_n 3, 1) := by decide +kernel
theorem dPr_binder_11 : decode cPr_binder 11 = .ok (.iload_n 3, 1) := by decide +kernel
theorem dPr_binder_12 : decode cPr_binder 12 = .ok (.ifCond .lt 53, 3) := by decide +kernel
theorem dPr_binder_15 : decode cPr_binder 15 = .ok (.aload_n 0, 1) := by decide +kernel
theorem dPr_binder_16 : decode cPr_binder 16 = .ok (.getfield 22, 3) := by decide +kernel
theorem dPr_binder_19 : decode cPr_binder 19 = .ok (.iload_n 3, 1) := by decide +kernel
theorem dPr_binder_20 : decode cPr_binder 20 = .ok (.iaload, 1) := by decide +kernel
theorem dPr_binder_21 : decode cPr_binder 21 = .ok (.iload_n 2, 1) := by decide +kernel
theorem dPr_binder_22 : decode cPr_binder 22 = .ok (.if_icmp .ge 37, 3) := by decide +kernel
theorem dPr_binder_25 : decode cPr_binder 25 = .ok (.aload_n 0, 1) := by decide +kernel
theorem dPr_binder_26 : decode cPr_binder 26 = .ok (.getfield 22, 3) := by decide +kernel
theorem dPr_binder_29 : decode cPr_binder 29 = .ok (.iload_n 3, 1) := by decide +kernel
theorem dPr_binder_30 : decode cPr_binder 30 = .ok (.iaload, 1) := by decide +kernel
theorem dPr_binder_31 : decode cPr_binder 31 = .ok (.istore_n 2, 1) := by decide +kernel
theorem dPr_binder_32 : decode cPr_binder 32 = .ok (.aload_n 0, 1) := by decide +kernel
theorem dPr_binder_33 : decode cPr_binder 33 = .ok (.getfield 9, 3) := by decide +kernel
theorem dPr_binder_36 : decode cPr_binder 36 = .ok (.iload_n 3, 1) := by decide +kernel
theorem dPr_binder_37 : decode cPr_binder 37 = .ok (.iaload, 1) := by decide +kernel
theorem dPr_binder_38 : decode cPr_binder 38 = .ok (.iconst 5, 1) := by decide +kernel
theorem dPr_binder_39 : decode cPr_binder 39 = .ok (.if_icmp .ne 20, 3) := by decide +kernel
theorem dPr_binder_42 : decode cPr_binder 42 = .ok (.aload_n 0, 1) := by decide +kernel
theorem dPr_binder_43 : decode cPr_binder 43 = .ok (.getfield 15, 3) := by decide +kernel
theorem dPr_binder_46 : decode cPr_binder 46 = .ok (.iload_n 3, 1) := by decide +kernel
theorem dPr_binder_47 : decode cPr_binder 47 = .ok (.iaload, 1) := by decide +kernel
theorem dPr_binder_48 : decode cPr_binder 48 = .ok (.aload_n 0, 1) := by decide +kernel
theorem dPr_binder_49 : decode cPr_binder 49 = .ok (.getfield 15, 3) := by decide +kernel
theorem dPr_binder_52 : decode cPr_binder 52 = .ok (.iload_n 1, 1) := by decide +kernel
theorem dPr_binder_53 : decode cPr_binder 53 = .ok (.iaload, 1) := by decide +kernel
theorem dPr_binder_54 : decode cPr_binder 54 = .ok (.if_icmp .ne 5, 3) := by decide +kernel
theorem dPr_binder_57 : decode cPr_binder 57 = .ok (.iload_n 3, 1) := by decide +kernel
theorem dPr_binder_58 : decode cPr_binder 58 = .ok (.ireturn, 1) := by decide +kernel
theorem dPr_binder_59 : decode cPr_binder 59 = .ok (.iinc 3 (-1), 3) := by decide +kernel
theorem dPr_binder_62 : decode cPr_binder 62 = .ok (.goto (-51), 3) := by decide +kernel
theorem dPr_binder_65 : decode cPr_binder 65 = .ok (.iconst (-1), 1) := by decide +kernel
theorem dPr_binder_66 : decode cPr_binder 66 = .ok (.ireturn, 1) := by decide +kernel
def f_Pr_binder_J59 (i : Nat) (v1 : Int32) (v2 : Int32) (v3 : Int32) (σ : Mem) : Option ((Int32 × Int32 × Mem) ⊕ (Int32 × Mem)) :=
  lt_ (v3 + (-1)) fun (x1 : Int32) =>
  some (.inl (v2, x1, σ))
def f_Pr_binder_L11 (i : Nat) (v1 : Int32) (v2 : Int32) (v3 : Int32) (σ : Mem) : Option ((Int32 × Int32 × Mem) ⊕ (Int32 × Mem)) :=
  if v3 < 0 then (
  inrM (some (((-1) : Int32), σ)))
  else (
  gd (inb v3 40) (
  if v2 ≤ (σ.1 (cPl i) v3.toNatClampNeg) then (
  f_Pr_binder_J59 i v1 v2 v3 σ)
  else (
  gd (inb v3 40) (
  lt_ (σ.1 (cPl i) v3.toNatClampNeg) fun (x5 : Int32) =>
  gd (inb v3 40) (
  if (σ.1 (cPk i) v3.toNatClampNeg) = (5 : Int32) then (
  gd (inb v3 40) (
  gd (inb v1 40) (
  if (σ.1 (cPf i) v3.toNatClampNeg) = (σ.1 (cPf i) v1.toNatClampNeg) then (
  inrM (some (v3, σ)))
  else (
  f_Pr_binder_J59 i v1 x5 v3 σ))))
  else (
  f_Pr_binder_J59 i v1 x5 v3 σ))))))
def f_Pr_binder (i : Nat) (v1 : Int32) (σ : Mem) : Option (Int32 × Mem) :=
  gd (inb v1 40) (
  lt_ (σ.1 (cPl i) v1.toNatClampNeg) fun (x11 : Int32) =>
  lt_ (v1 - (1 : Int32)) fun (x12 : Int32) =>
  loopF (fun (q : (Int32 × Int32 × Mem)) => f_Pr_binder_L11 i v1 q.1 q.2.1 q.2.2) FU (x11, x12, σ))
set_option maxHeartbeats 4000000 in
set_option maxRecDepth 100000 in
theorem c_Pr_binder (l : Launch) (g : Gw) (hg : wInj g) {i : Nat} (hi : i < 17) {v1 : Int32} {r0 : Int32} {σ σ0 : Mem} (h : f_Pr_binder i v1 σ = some (r0, σ0)) : KI l yPr_binder cPr_binder 4 (some .int) 0 g [.ref (ad g (cP i)), .int v1] σ r0 σ0 := by
  refine q_met g hg (own := "TermBench$Program") rfl rfl (Nat.le_of_ble_eq_true rfl) (fun p e s m args below meth c R Q cx hRk hr hQ H locs ls hP hS hl => ?_)
  have hx := cx.1
  have hb := cx.2.1
  have hown := cx.2.2.2.1
  have hts := cx.2.2.2.2.1
  have hl : lv_has ls 4 [(0, .ref (ad g (cP i))), (1, .int v1)] := hl
  unfold f_Pr_binder at h
  refine lv_aload_n hx hb dPr_binder_0 rfl (lv_at hl 0 rfl) ?_
  refine g_Pr_levels cx hP hi  t_44 dPr_binder_1 ?_
  refine lv_iload_n hx hb dPr_binder_4 rfl (lv_at hl 1 rfl) ?_
  obtain ⟨b10, h⟩ := gd_some h
  refine q_iald cx hP (l_cPl hi) (e_cPl g hi) b10 dPr_binder_5 ?_
  obtain ⟨x11, ex11, h⟩ := lt_some h
  refine q_nmi ex11 ?_
  refine lv_istore_n (lv' := [(2, .int x11), (0, .ref (ad g (cP i))), (1, .int v1)]) hx hb dPr_binder_6 rfl hl (Nat.le_of_ble_eq_true rfl) rfl (fun ls hl => ?_)
  refine lv_iload_n hx hb dPr_binder_7 rfl (lv_at hl 2 rfl) ?_
  refine lv_iconst (v := 1) hx hb dPr_binder_8 (by decide) ?_
  refine lv_isub hx hb dPr_binder_9 ?_
  obtain ⟨x12, ex12, h⟩ := lt_some h
  refine q_nmi ex12 ?_
  refine lv_istore_n (lv' := [(3, .int x12), (2, .int x11), (0, .ref (ad g (cP i))), (1, .int v1)]) hx hb dPr_binder_10 rfl hl (Nat.le_of_ble_eq_true rfl) rfl (fun ls hl => ?_)
  have L11 : ∀ (n : Nat) (v1 : Int32) (v2 : Int32) (v3 : Int32) (σ : Mem), loopF (fun (q : (Int32 × Int32 × Mem)) => f_Pr_binder_L11 i v1 q.1 q.2.1 q.2.2) n (v2, v3, σ) = some (r0, σ0) → ∀ (H : Heap) (locs : List Loc) (ls : Array Slot), lv_has ls 4 [(0, .ref (ad g (cP i))), (1, .int v1), (2, .int v2), (3, .int v3)] → Wd g σ H → va_S (wA g) s.heap H locs → W p l e R s m args below meth c H locs 0 0 Q (F0 m 11 ls []) := by
    intro n
    induction n with
    | zero => intro v1 v2 v3 σ h; exact (loopF_zero h).elim
    | succ n ih11 =>
      intro v1 v2 v3 σ h H locs ls hl hP hS
      obtain ⟨o11, h, K11, E11⟩ := loopF_succ h
      have h : f_Pr_binder_L11 i v1 v2 v3 σ = some o11 := h
      have J59 : ∀ (v2 : Int32) (v3 : Int32) (σ : Mem), f_Pr_binder_J59 i v1 v2 v3 σ = some o11 → ∀ (H : Heap) (locs : List Loc) (ls : Array Slot), lv_has ls 4 [(0, .ref (ad g (cP i))), (1, .int v1), (2, .int v2), (3, .int v3)] → Wd g σ H → va_S (wA g) s.heap H locs → W p l e R s m args below meth c H locs 0 0 Q (F0 m 59 ls []) := by
        intro v2 v3 σ h H locs ls hl hP hS
        unfold f_Pr_binder_J59 at h
        obtain ⟨x1, ex1, h⟩ := lt_some h
        refine lv_iinc (lv' := [(3, .int x1), (0, .ref (ad g (cP i))), (1, .int v1), (2, .int v2)]) hx hb dPr_binder_59 hl (k := 3) rfl (q_inc ex1 (by decide)) (Nat.le_of_ble_eq_true rfl) rfl (fun ls hl => ?_)
        refine lv_goto (tgt := 11) hx hb dPr_binder_62 (by decide) ?_
        exact ih11 _ _ _ _ (K11 _ (Option.some.inj h).symm) _ _ _ (lv_sub hl [1, 2, 3, 0] rfl) hP hS
      unfold f_Pr_binder_L11 at h
      refine lv_iload_n hx hb dPr_binder_11 rfl (lv_at hl 3 rfl) ?_
      refine lv_if_lt (tgt := 65) hx hb dPr_binder_12 (by decide) (fun hc => ?_) (fun hc => ?_)
      · replace h := if_t h hc
        obtain ⟨z2, h, ez2⟩ := inrM_some h
        rw [E11 z2 ez2] at h
        refine lv_iconst (v := (-1)) hx hb dPr_binder_65 (by decide) ?_
        exact q_ri cx hr rfl hP hS hQ h dPr_binder_66
      · replace h := if_f h hc
        refine lv_aload_n hx hb dPr_binder_15 rfl (lv_at hl 0 rfl) ?_
        refine g_Pr_levels cx hP hi  t_44 dPr_binder_16 ?_
        refine lv_iload_n hx hb dPr_binder_19 rfl (lv_at hl 3 rfl) ?_
        obtain ⟨b3, h⟩ := gd_some h
        refine q_iald cx hP (l_cPl hi) (e_cPl g hi) b3 dPr_binder_20 ?_
        refine lv_iload_n hx hb dPr_binder_21 rfl (lv_at hl 2 rfl) ?_
        refine lv_icmp_ge (tgt := 59) hx hb dPr_binder_22 (by decide) (fun hc => ?_) (fun hc => ?_)
        · replace h := if_t h hc
          exact J59 _ _ _ h _ _ _ (lv_sub hl [0, 1, 2, 3] rfl) hP hS
        · replace h := if_f h hc
          refine lv_aload_n hx hb dPr_binder_25 rfl (lv_at hl 0 rfl) ?_
          refine g_Pr_levels cx hP hi  t_44 dPr_binder_26 ?_
          refine lv_iload_n hx hb dPr_binder_29 rfl (lv_at hl 3 rfl) ?_
          obtain ⟨b4, h⟩ := gd_some h
          refine q_iald cx hP (l_cPl hi) (e_cPl g hi) b4 dPr_binder_30 ?_
          obtain ⟨x5, ex5, h⟩ := lt_some h
          refine q_nmi ex5 ?_
          refine lv_istore_n (lv' := [(2, .int x5), (0, .ref (ad g (cP i))), (1, .int v1), (3, .int v3)]) hx hb dPr_binder_31 rfl hl (Nat.le_of_ble_eq_true rfl) rfl (fun ls hl => ?_)
          refine lv_aload_n hx hb dPr_binder_32 rfl (lv_at hl 1 rfl) ?_
          refine g_Pr_kinds cx hP hi  t_33 dPr_binder_33 ?_
          refine lv_iload_n hx hb dPr_binder_36 rfl (lv_at hl 3 rfl) ?_
          obtain ⟨b6, h⟩ := gd_some h
          refine q_iald cx hP (l_cPk hi) (e_cPk g hi) b6 dPr_binder_37 ?_
          refine lv_iconst (v := 5) hx hb dPr_binder_38 (by decide) ?_
          refine lv_icmp_ne (tgt := 59) hx hb dPr_binder_39 (by decide) (fun hc => ?_) (fun hc => ?_)
          · replace h := if_f h hc
            exact J59 _ _ _ h _ _ _ (lv_sub hl [1, 2, 0, 3] rfl) hP hS
          · replace h := if_t h hc
            refine lv_aload_n hx hb dPr_binder_42 rfl (lv_at hl 1 rfl) ?_
            refine g_Pr_figures cx hP hi  t_38 dPr_binder_43 ?_
            refine lv_iload_n hx hb dPr_binder_46 rfl (lv_at hl 3 rfl) ?_
            obtain ⟨b7, h⟩ := gd_some h
            refine q_iald cx hP (l_cPf hi) (e_cPf g hi) b7 dPr_binder_47 ?_
            refine lv_aload_n hx hb dPr_binder_48 rfl (lv_at hl 1 rfl) ?_
            refine g_Pr_figures cx hP hi  t_38 dPr_binder_49 ?_
            refine lv_iload_n hx hb dPr_binder_52 rfl (lv_at hl 2 rfl) ?_
            obtain ⟨b8, h⟩ := gd_some h
            refine q_iald cx hP (l_cPf hi) (e_cPf g hi) b8 dPr_binder_53 ?_
            refine lv_icmp_ne (tgt := 59) hx hb dPr_binder_54 (by decide) (fun hc => ?_) (fun hc => ?_)
            · replace h := if_f h hc
              exact J59 _ _ _ h _ _ _ (lv_sub hl [1, 2, 0, 3] rfl) hP hS
            · replace h := if_t h hc
              obtain ⟨z9, h, ez9⟩ := inrM_some h
              rw [E11 z9 ez9] at h
              refine lv_iload_n hx hb dPr_binder_57 rfl (lv_at hl 3 rfl) ?_
              exact q_ri cx hr rfl hP hS hQ h dPr_binder_58
  exact L11 _ _ _ _ _ h _ _ _ (lv_sub hl [2, 3, 1, 0] rfl) hP hS
