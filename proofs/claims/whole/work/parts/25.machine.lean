/-! 25.machine, by program: pure functions and contracts -/
theorem dMa_outcome_0 : decode cMa_outcome 0 = .ok (.lload_n 0, 1) := by decide +kernel
theorem dMa_outcome_1 : decode cMa_outcome 1 = .ok (.l2i, 1) := by decide +kernel
theorem dMa_outcome_2 : decode cMa_outcome 2 = .ok (.iconst 3, 1) := by decide +kernel
theorem dMa_outcome_3 : decode cMa_outcome 3 = .ok (.iand, 1) := by decide +kernel
theorem dMa_outcome_4 : decode cMa_outcome 4 = .ok (.ireturn, 1) := by decide +kernel
def f_Ma_outcome  (v0 : Int64) (σ : Mem) : Option (Int32 × Mem) :=
  some (v0.toInt32 &&& (3 : Int32), σ)
set_option maxHeartbeats 4000000 in
set_option maxRecDepth 100000 in
theorem c_Ma_outcome (l : Launch) (g : Gw) (hg : wInj g) {v0 : Int64} {r0 : Int32} {σ σ0 : Mem} (h : f_Ma_outcome v0 σ = some (r0, σ0)) : KI l yMa_outcome cMa_outcome 2 (some .int) 0 g [.long v0] σ r0 σ0 := by
  refine q_met g hg (own := "TermBench$Machine") rfl rfl (Nat.le_of_ble_eq_true rfl) (fun p e s m args below meth c R Q cx hRk hr hQ H locs ls hP hS hl => ?_)
  have hx := cx.1
  have hb := cx.2.1
  have hown := cx.2.2.2.1
  have hts := cx.2.2.2.2.1
  have hl : lv_has ls 2 [(0, .long v0)] := hl
  unfold f_Ma_outcome at h
  refine lv_lload_n hx hb dMa_outcome_0 rfl (lv_at hl 0 rfl) ?_
  refine lv_l2i hx hb dMa_outcome_1 rfl ?_
  refine lv_iconst (v := 3) hx hb dMa_outcome_2 (by decide) ?_
  refine lv_iand hx hb dMa_outcome_3 ?_
  exact q_ri cx hr rfl hP hS hQ h dMa_outcome_4
theorem dMa_value_0 : decode cMa_value 0 = .ok (.iload_n 1, 1) := by decide +kernel
theorem dMa_value_1 : decode cMa_value 1 = .ok (.i2l, 1) := by decide +kernel
theorem dMa_value_2 : decode cMa_value 2 = .ok (.iconst 2, 1) := by decide +kernel
theorem dMa_value_3 : decode cMa_value 3 = .ok (.lshl, 1) := by decide +kernel
theorem dMa_value_4 : decode cMa_value 4 = .ok (.iload_n 0, 1) := by decide +kernel
theorem dMa_value_5 : decode cMa_value 5 = .ok (.i2l, 1) := by decide +kernel
theorem dMa_value_6 : decode cMa_value 6 = .ok (.lor, 1) := by decide +kernel
theorem dMa_value_7 : decode cMa_value 7 = .ok (.lreturn, 1) := by decide +kernel
def f_Ma_value  (v0 : Int32) (v1 : Int32) (σ : Mem) : Option (Int64 × Mem) :=
  some ((v1.toInt64 <<< ((2 : Int32).toInt64 &&& 63)) ||| v0.toInt64, σ)
set_option maxHeartbeats 4000000 in
set_option maxRecDepth 100000 in
theorem c_Ma_value (l : Launch) (g : Gw) (hg : wInj g) {v0 : Int32} {v1 : Int32} {r0 : Int64} {σ σ0 : Mem} (h : f_Ma_value v0 v1 σ = some (r0, σ0)) : KL l yMa_value cMa_value 2 (some .long) 0 g [.int v0, .int v1] σ r0 σ0 := by
  refine q_met g hg (own := "TermBench$Machine") rfl rfl (Nat.le_of_ble_eq_true rfl) (fun p e s m args below meth c R Q cx hRk hr hQ H locs ls hP hS hl => ?_)
  have hx := cx.1
  have hb := cx.2.1
  have hown := cx.2.2.2.1
  have hts := cx.2.2.2.2.1
  have hl : lv_has ls 2 [(0, .int v0), (1, .int v1)] := hl
  unfold f_Ma_value at h
  refine lv_iload_n hx hb dMa_value_0 rfl (lv_at hl 1 rfl) ?_
  refine lv_i2l hx hb dMa_value_1 rfl ?_
  refine lv_iconst (v := 2) hx hb dMa_value_2 (by decide) ?_
  refine lv_lshl hx hb dMa_value_3 rfl ?_
  refine lv_iload_n hx hb dMa_value_4 rfl (lv_at hl 0 rfl) ?_
  refine lv_i2l hx hb dMa_value_5 rfl ?_
  refine lv_lor hx hb dMa_value_6 ?_
  exact q_rl cx hr hP hS hQ h dMa_value_7
theorem dMa_content_0 : decode cMa_content 0 = .ok (.lload_n 0, 1) := by decide +kernel
theorem dMa_content_1 : decode cMa_content 1 = .ok (.iconst 2, 1) := by decide +kernel
theorem dMa_content_2 : decode cMa_content 2 = .ok (.lshr, 1) := by decide +kernel
theorem dMa_content_3 : decode cMa_content 3 = .ok (.l2i, 1) := by decide +kernel
theorem dMa_content_4 : decode cMa_content 4 = .ok (.ireturn, 1) := by decide +kernel
def f_Ma_content  (v0 : Int64) (σ : Mem) : Option (Int32 × Mem) :=
  some ((v0 >>> ((2 : Int32).toInt64 &&& 63)).toInt32, σ)
set_option maxHeartbeats 4000000 in
set_option maxRecDepth 100000 in
theorem c_Ma_content (l : Launch) (g : Gw) (hg : wInj g) {v0 : Int64} {r0 : Int32} {σ σ0 : Mem} (h : f_Ma_content v0 σ = some (r0, σ0)) : KI l yMa_content cMa_content 2 (some .int) 0 g [.long v0] σ r0 σ0 := by
  refine q_met g hg (own := "TermBench$Machine") rfl rfl (Nat.le_of_ble_eq_true rfl) (fun p e s m args below meth c R Q cx hRk hr hQ H locs ls hP hS hl => ?_)
  have hx := cx.1
  have hb := cx.2.1
  have hown := cx.2.2.2.1
  have hts := cx.2.2.2.2.1
  have hl : lv_has ls 2 [(0, .long v0)] := hl
  unfold f_Ma_content at h
  refine lv_lload_n hx hb dMa_content_0 rfl (lv_at hl 0 rfl) ?_
  refine lv_iconst (v := 2) hx hb dMa_content_1 (by decide) ?_
  refine lv_lshr hx hb dMa_content_2 rfl ?_
  refine lv_l2i hx hb dMa_content_3 rfl ?_
  exact q_ri cx hr rfl hP hS hQ h dMa_content_4
theorem dMa_bind_0 : decode cMa_bind 0 = .ok (.aload_n 0, 1) := by decide +kernel
theorem dMa_bind_1 : decode cMa_bind 1 = .ok (.getfield 22, 3) := by decide +kernel
theorem dMa_bind_4 : decode cMa_bind 4 = .ok (.sipush 133, 3) := by decide +kernel
theorem dMa_bind_7 : decode cMa_bind 7 = .ok (.if_icmp .lt 6, 3) := by decide +kernel
theorem dMa_bind_10 : decode cMa_bind 10 = .ok (.iload 4, 2) := by decide +kernel
theorem dMa_bind_12 : decode cMa_bind 12 = .ok (.ireturn, 1) := by decide +kernel
theorem dMa_bind_13 : decode cMa_bind 13 = .ok (.aload_n 0, 1) := by decide +kernel
theorem dMa_bind_14 : decode cMa_bind 14 = .ok (.dup, 1) := by decide +kernel
theorem dMa_bind_15 : decode cMa_bind 15 = .ok (.getfield 22, 3) := by decide +kernel
theorem dMa_bind_18 : decode cMa_bind 18 = .ok (.iconst 1, 1) := by decide +kernel
theorem dMa_bind_19 : decode cMa_bind 19 = .ok (.iadd, 1) := by decide +kernel
theorem dMa_bind_20 : decode cMa_bind 20 = .ok (.putfield 22, 3) := by decide +kernel
theorem dMa_bind_23 : decode cMa_bind 23 = .ok (.aload_n 0, 1) := by decide +kernel
theorem dMa_bind_24 : decode cMa_bind 24 = .ok (.getfield 11, 3) := by decide +kernel
theorem dMa_bind_27 : decode cMa_bind 27 = .ok (.aload_n 0, 1) := by decide +kernel
theorem dMa_bind_28 : decode cMa_bind 28 = .ok (.getfield 22, 3) := by decide +kernel
theorem dMa_bind_31 : decode cMa_bind 31 = .ok (.iload_n 1, 1) := by decide +kernel
theorem dMa_bind_32 : decode cMa_bind 32 = .ok (.iastore, 1) := by decide +kernel
theorem dMa_bind_33 : decode cMa_bind 33 = .ok (.aload_n 0, 1) := by decide +kernel
theorem dMa_bind_34 : decode cMa_bind 34 = .ok (.getfield 15, 3) := by decide +kernel
theorem dMa_bind_37 : decode cMa_bind 37 = .ok (.aload_n 0, 1) := by decide +kernel
theorem dMa_bind_38 : decode cMa_bind 38 = .ok (.getfield 22, 3) := by decide +kernel
theorem dMa_bind_41 : decode cMa_bind 41 = .ok (.lload_n 2, 1) := by decide +kernel
theorem dMa_bind_42 : decode cMa_bind 42 = .ok (.lastore, 1) := by decide +kernel
theorem dMa_bind_43 : decode cMa_bind 43 = .ok (.aload_n 0, 1) := by decide +kernel
theorem dMa_bind_44 : decode cMa_bind 44 = .ok (.getfield 19, 3) := by decide +kernel
theorem dMa_bind_47 : decode cMa_bind 47 = .ok (.aload_n 0, 1) := by decide +kernel
theorem dMa_bind_48 : decode cMa_bind 48 = .ok (.getfield 22, 3) := by decide +kernel
theorem dMa_bind_51 : decode cMa_bind 51 = .ok (.iload 4, 2) := by decide +kernel
theorem dMa_bind_53 : decode cMa_bind 53 = .ok (.iastore, 1) := by decide +kernel
theorem dMa_bind_54 : decode cMa_bind 54 = .ok (.aload_n 0, 1) := by decide +kernel
theorem dMa_bind_55 : decode cMa_bind 55 = .ok (.getfield 22, 3) := by decide +kernel
theorem dMa_bind_58 : decode cMa_bind 58 = .ok (.ireturn, 1) := by decide +kernel
def f_Ma_bind  (v1 : Int32) (v2 : Int64) (v4 : Int32) (σ : Mem) : Option (Int32 × Mem) :=
  if (σ.1 11 3) < (133 : Int32) then (
  lt_ (sI σ 11 3 ((σ.1 11 3) + (1 : Int32))) fun (σ1 : Mem) =>
  gd (inb (σ1.1 11 3) 134) (lt_ (sI σ1 12 (σ1.1 11 3).toNatClampNeg v1) fun (σ3 : Mem) =>
  gd (inb (σ3.1 11 3) 134) (lt_ (sL σ3 13 (σ3.1 11 3).toNatClampNeg v2) fun (σ5 : Mem) =>
  gd (inb (σ5.1 11 3) 134) (lt_ (sI σ5 14 (σ5.1 11 3).toNatClampNeg v4) fun (σ7 : Mem) =>
  some (σ7.1 11 3, σ7)))))
  else (
  some (v4, σ))
set_option maxHeartbeats 4000000 in
set_option maxRecDepth 100000 in
theorem c_Ma_bind (l : Launch) (g : Gw) (hg : wInj g) {v1 : Int32} {v2 : Int64} {v4 : Int32} {r0 : Int32} {σ σ0 : Mem} (h : f_Ma_bind v1 v2 v4 σ = some (r0, σ0)) : KI l yMa_bind cMa_bind 5 (some .int) 0 g [.ref (ad g 11), .int v1, .long v2, .int v4] σ r0 σ0 := by
  refine q_met g hg (own := "TermBench$Machine") rfl rfl (Nat.le_of_ble_eq_true rfl) (fun p e s m args below meth c R Q cx hRk hr hQ H locs ls hP hS hl => ?_)
  have hx := cx.1
  have hb := cx.2.1
  have hown := cx.2.2.2.1
  have hts := cx.2.2.2.2.1
  have hl : lv_has ls 5 [(0, .ref (ad g 11)), (1, .int v1), (2, .long v2), (4, .int v4)] := hl
  unfold f_Ma_bind at h
  refine lv_aload_n hx hb dMa_bind_0 rfl (lv_at hl 0 rfl) ?_
  refine g_Ma_bound cx hP  t_139 dMa_bind_1 ?_
  refine lv_sipush (v := 133) hx hb dMa_bind_4 (by decide) ?_
  refine lv_icmp_lt (tgt := 13) hx hb dMa_bind_7 (by decide) (fun hc => ?_) (fun hc => ?_)
  · replace h := if_t h hc
    refine lv_aload_n hx hb dMa_bind_13 rfl (lv_at hl 0 rfl) ?_
    refine lv_dup hx hb dMa_bind_14 rfl ?_
    refine g_Ma_bound cx hP  t_139 dMa_bind_15 ?_
    refine lv_iconst (v := 1) hx hb dMa_bind_18 (by decide) ?_
    refine lv_iadd hx hb dMa_bind_19 ?_
    obtain ⟨σ1, eσ1, h⟩ := lt_some h
    refine p_Ma_bound cx hP hS t_139 dMa_bind_20 eσ1 (fun H locs hP hS => ?_)
    refine lv_aload_n hx hb dMa_bind_23 rfl (lv_at hl 0 rfl) ?_
    refine g_Ma_boundNames cx hP  t_136 dMa_bind_24 ?_
    refine lv_aload_n hx hb dMa_bind_27 rfl (lv_at hl 0 rfl) ?_
    refine g_Ma_bound cx hP  t_139 dMa_bind_28 ?_
    refine lv_iload_n hx hb dMa_bind_31 rfl (lv_at hl 1 rfl) ?_
    obtain ⟨b2, h⟩ := gd_some h
    obtain ⟨σ3, eσ3, h⟩ := lt_some h
    refine q_iast cx hP hS (by decide) (e_12 g) b2 dMa_bind_32 eσ3 (fun H locs hP hS => ?_)
    refine lv_aload_n hx hb dMa_bind_33 rfl (lv_at hl 0 rfl) ?_
    refine g_Ma_boundValues cx hP  t_137 dMa_bind_34 ?_
    refine lv_aload_n hx hb dMa_bind_37 rfl (lv_at hl 0 rfl) ?_
    refine g_Ma_bound cx hP  t_139 dMa_bind_38 ?_
    refine lv_lload_n hx hb dMa_bind_41 rfl (lv_at hl 2 rfl) ?_
    obtain ⟨b4, h⟩ := gd_some h
    obtain ⟨σ5, eσ5, h⟩ := lt_some h
    refine q_last cx hP hS (by decide) (e_13 g) b4 dMa_bind_42 eσ5 (fun H locs hP hS => ?_)
    refine lv_aload_n hx hb dMa_bind_43 rfl (lv_at hl 0 rfl) ?_
    refine g_Ma_outerScopes cx hP  t_138 dMa_bind_44 ?_
    refine lv_aload_n hx hb dMa_bind_47 rfl (lv_at hl 0 rfl) ?_
    refine g_Ma_bound cx hP  t_139 dMa_bind_48 ?_
    refine lv_iload hx hb dMa_bind_51 (lv_at hl 3 rfl) ?_
    obtain ⟨b6, h⟩ := gd_some h
    obtain ⟨σ7, eσ7, h⟩ := lt_some h
    refine q_iast cx hP hS (by decide) (e_14 g) b6 dMa_bind_53 eσ7 (fun H locs hP hS => ?_)
    refine lv_aload_n hx hb dMa_bind_54 rfl (lv_at hl 0 rfl) ?_
    refine g_Ma_bound cx hP  t_139 dMa_bind_55 ?_
    exact q_ri cx hr rfl hP hS hQ h dMa_bind_58
  · replace h := if_f h hc
    refine lv_iload hx hb dMa_bind_10 (lv_at hl 3 rfl) ?_
    exact q_ri cx hr rfl hP hS hQ h dMa_bind_12
theorem dMa_standsFor_0 : decode cMa_standsFor 0 = .ok (.iload_n 2, 1) := by decide +kernel
theorem dMa_standsFor_1 : decode cMa_standsFor 1 = .ok (.istore_n 3, 1) := by decide +kernel
theorem dMa_standsFor_2 : decode cMa_standsFor 2 = .ok (.iconst 0, 1) := by decide +kernel
theorem dMa_standsFor_3 : decode cMa_standsFor 3 = .ok (.istore 4, 2) := by decide +kernel
theorem dMa_standsFor_5 : decode cMa_standsFor 5 = .ok (.iload 4, 2) := by decide +kernel
theorem dMa_standsFor_7 : decode cMa_standsFor 7 = .ok (.bipush 12, 2) := by decide +kernel
theorem dMa_standsFor_9 : decode cMa_standsFor 9 = .ok (.if_icmp .ge 37, 3) := by decide +kernel
theorem dMa_standsFor_12 : decode cMa_standsFor 12 = .ok (.iload_n 3, 1) := by decide +kernel
theorem dMa_standsFor_13 : decode cMa_standsFor 13 = .ok (.ifCond .le 33, 3) := by decide +kernel
theorem dMa_standsFor_16 : decode cMa_standsFor 16 = .ok (.aload_n 0, 1) := by decide +kernel
theorem dMa_standsFor_17 : decode cMa_standsFor 17 = .ok (.getfield 11, 3) := by decide +kernel
theorem dMa_standsFor_20 : decode cMa_standsFor 20 = .ok (.iload_n 3, 1) := by decide +kernel
theorem dMa_standsFor_21 : decode cMa_standsFor 21 = .ok (.iaload, 1) := by decide +kernel
theorem dMa_standsFor_22 : decode cMa_standsFor 22 = .ok (.iload_n 1, 1) := by decide +kernel
theorem dMa_standsFor_23 : decode cMa_standsFor 23 = .ok (.if_icmp .ne 10, 3) := by decide +kernel
theorem dMa_standsFor_26 : decode cMa_standsFor 26 = .ok (.aload_n 0, 1) := by decide +kernel
theorem dMa_standsFor_27 : decode cMa_standsFor 27 = .ok (.getfield 15, 3) := by decide +kernel
theorem dMa_standsFor_30 : decode cMa_standsFor 30 = .ok (.iload_n 3, 1) := by decide +kernel
theorem dMa_standsFor_31 : decode cMa_standsFor 31 = .ok (.laload, 1) := by decide +kernel
theorem dMa_standsFor_32 : decode cMa_standsFor 32 = .ok (.lreturn, 1) := by decide +kernel
theorem dMa_standsFor_33 : decode cMa_standsFor 33 = .ok (.aload_n 0, 1) := by decide +kernel
theorem dMa_standsFor_34 : decode cMa_standsFor 34 = .ok (.getfield 19, 3) := by decide +kernel
theorem dMa_standsFor_37 : decode cMa_standsFor 37 = .ok (.iload_n 3, 1) := by decide +kernel
theorem dMa_standsFor_38 : decode cMa_standsFor 38 = .ok (.iaload, 1) := by decide +kernel
theorem dMa_standsFor_39 : decode cMa_standsFor 39 = .ok (.istore_n 3, 1) := by decide +kernel
theorem dMa_standsFor_40 : decode cMa_standsFor 40 = .ok (.iinc 4 1, 3) := by decide +kernel
theorem dMa_standsFor_43 : decode cMa_standsFor 43 = .ok (.goto (-38), 3) := by decide +kernel
theorem dMa_standsFor_46 : decode cMa_standsFor 46 = .ok (.iconst 2, 1) := by decide +kernel
theorem dMa_standsFor_47 : decode cMa_standsFor 47 = .ok (.iconst 0, 1) := by decide +kernel
theorem dMa_standsFor_48 : decode cMa_standsFor 48 = .ok (.invokestatic 43, 3) := by decide +kernel
theorem dMa_standsFor_51 : decode cMa_standsFor 51 = .ok (.lreturn, 1) := by decide +kernel
def f_Ma_standsFor_J46  (v1 : Int32) (v2 : Int32) (v3 : Int32) (v4 : Int32) (σ : Mem) : Option (Int64 × Mem) :=
  bn (f_Ma_value (2 : Int32) (0 : Int32) σ) fun (r3 : Int64) (σ2 : Mem) =>
  some (r3, σ2)
def f_Ma_standsFor_L5  (v1 : Int32) (v2 : Int32) (v3 : Int32) (v4 : Int32) (σ : Mem) : Option ((Int32 × Int32 × Mem) ⊕ (Int64 × Mem)) :=
  if (12 : Int32) ≤ v4 then (
  inrM (f_Ma_standsFor_J46 v1 v2 v3 v4 σ))
  else (
  if v3 ≤ 0 then (
  inrM (f_Ma_standsFor_J46 v1 v2 v3 v4 σ))
  else (
  gd (inb v3 134) (
  if (σ.1 12 v3.toNatClampNeg) = v1 then (
  inrM (gd (inb v3 134) (
  some (σ.2 13 v3.toNatClampNeg, σ))))
  else (
  gd (inb v3 134) (
  lt_ (σ.1 14 v3.toNatClampNeg) fun (x8 : Int32) =>
  lt_ (v4 + 1) fun (x9 : Int32) =>
  some (.inl (x8, x9, σ)))))))
def f_Ma_standsFor  (v1 : Int32) (v2 : Int32) (σ : Mem) : Option (Int64 × Mem) :=
  lt_ (0 : Int32) fun (x12 : Int32) =>
  loopF (fun (q : (Int32 × Int32 × Mem)) => f_Ma_standsFor_L5 v1 v2 q.1 q.2.1 q.2.2) FU (v2, x12, σ)
set_option maxHeartbeats 4000000 in
set_option maxRecDepth 100000 in
theorem c_Ma_standsFor (l : Launch) (g : Gw) (hg : wInj g) {v1 : Int32} {v2 : Int32} {r0 : Int64} {σ σ0 : Mem} (h : f_Ma_standsFor v1 v2 σ = some (r0, σ0)) : KL l yMa_standsFor cMa_standsFor 5 (some .long) 1 g [.ref (ad g 11), .int v1, .int v2] σ r0 σ0 := by
  refine q_met g hg (own := "TermBench$Machine") rfl rfl (Nat.le_of_ble_eq_true rfl) (fun p e s m args below meth c R Q cx hRk hr hQ H locs ls hP hS hl => ?_)
  have hx := cx.1
  have hb := cx.2.1
  have hown := cx.2.2.2.1
  have hts := cx.2.2.2.2.1
  have hl : lv_has ls 5 [(0, .ref (ad g 11)), (1, .int v1), (2, .int v2)] := hl
  have J46 : ∀ (v1 : Int32) (v2 : Int32) (v3 : Int32) (v4 : Int32) (σ : Mem), f_Ma_standsFor_J46 v1 v2 v3 v4 σ = some (r0, σ0) → ∀ (H : Heap) (locs : List Loc) (ls : Array Slot), lv_has ls 5 [(0, .ref (ad g 11)), (1, .int v1), (2, .int v2), (3, .int v3), (4, .int v4)] → Wd g σ H → va_S (wA g) s.heap H locs → W p l e R s m args below meth c H locs 0 0 Q (F0 m 46 ls []) := by
    intro v1 v2 v3 v4 σ h H locs ls hl hP hS
    unfold f_Ma_standsFor_J46 at h
    refine lv_iconst (v := 2) hx hb dMa_standsFor_46 (by decide) ?_
    refine lv_iconst (v := 0) hx hb dMa_standsFor_47 (by decide) ?_
    obtain ⟨r3, σ2, h1, h⟩ := bn_some h
    refine q_cSl (rest := []) (As := [.int (2 : Int32), .int (0 : Int32)]) cx hP hS hRk (c_Ma_value l g hg h1) Y_Ma_value S_Ma_value t_490 (by decide) rfl hl.1 rfl (Nat.le_of_ble_eq_true rfl) dMa_standsFor_48 (fun H locs hP hS => ?_)
    exact q_rl cx hr hP hS hQ h dMa_standsFor_51
  unfold f_Ma_standsFor at h
  refine lv_iload_n hx hb dMa_standsFor_0 rfl (lv_at hl 2 rfl) ?_
  refine lv_istore_n (lv' := [(3, .int v2), (0, .ref (ad g 11)), (1, .int v1), (2, .int v2)]) hx hb dMa_standsFor_1 rfl hl (Nat.le_of_ble_eq_true rfl) rfl (fun ls hl => ?_)
  refine lv_iconst (v := 0) hx hb dMa_standsFor_2 (by decide) ?_
  obtain ⟨x12, ex12, h⟩ := lt_some h
  refine q_nmi ex12 ?_
  refine lv_istore (lv' := [(4, .int x12), (3, .int v2), (0, .ref (ad g 11)), (1, .int v1), (2, .int v2)]) hx hb dMa_standsFor_3 hl (Nat.le_of_ble_eq_true rfl) rfl (fun ls hl => ?_)
  have L5 : ∀ (n : Nat) (v1 : Int32) (v2 : Int32) (v3 : Int32) (v4 : Int32) (σ : Mem), loopF (fun (q : (Int32 × Int32 × Mem)) => f_Ma_standsFor_L5 v1 v2 q.1 q.2.1 q.2.2) n (v3, v4, σ) = some (r0, σ0) → ∀ (H : Heap) (locs : List Loc) (ls : Array Slot), lv_has ls 5 [(0, .ref (ad g 11)), (1, .int v1), (2, .int v2), (3, .int v3), (4, .int v4)] → Wd g σ H → va_S (wA g) s.heap H locs → W p l e R s m args below meth c H locs 0 0 Q (F0 m 5 ls []) := by
    intro n
    induction n with
    | zero => intro v1 v2 v3 v4 σ h; exact (loopF_zero h).elim
    | succ n ih5 =>
      intro v1 v2 v3 v4 σ h H locs ls hl hP hS
      obtain ⟨o5, h, K5, E5⟩ := loopF_succ h
      have h : f_Ma_standsFor_L5 v1 v2 v3 v4 σ = some o5 := h
      unfold f_Ma_standsFor_L5 at h
      refine lv_iload hx hb dMa_standsFor_5 (lv_at hl 4 rfl) ?_
      refine lv_bipush (v := 12) hx hb dMa_standsFor_7 (by decide) ?_
      refine lv_icmp_ge (tgt := 46) hx hb dMa_standsFor_9 (by decide) (fun hc => ?_) (fun hc => ?_)
      · replace h := if_t h hc
        obtain ⟨z4, h, ez4⟩ := inrM_some h
        rw [E5 z4 ez4] at h
        exact J46 _ _ _ _ _ h _ _ _ (lv_sub hl [0, 1, 2, 3, 4] rfl) hP hS
      · replace h := if_f h hc
        refine lv_iload_n hx hb dMa_standsFor_12 rfl (lv_at hl 3 rfl) ?_
        refine lv_if_le (tgt := 46) hx hb dMa_standsFor_13 (by decide) (fun hc => ?_) (fun hc => ?_)
        · replace h := if_t h hc
          obtain ⟨z5, h, ez5⟩ := inrM_some h
          rw [E5 z5 ez5] at h
          exact J46 _ _ _ _ _ h _ _ _ (lv_sub hl [0, 1, 2, 3, 4] rfl) hP hS
        · replace h := if_f h hc
          refine lv_aload_n hx hb dMa_standsFor_16 rfl (lv_at hl 0 rfl) ?_
          refine g_Ma_boundNames cx hP  t_136 dMa_standsFor_17 ?_
          refine lv_iload_n hx hb dMa_standsFor_20 rfl (lv_at hl 3 rfl) ?_
          obtain ⟨b6, h⟩ := gd_some h
          refine q_iald cx hP (by decide) (e_12 g) b6 dMa_standsFor_21 ?_
          refine lv_iload_n hx hb dMa_standsFor_22 rfl (lv_at hl 1 rfl) ?_
          refine lv_icmp_ne (tgt := 33) hx hb dMa_standsFor_23 (by decide) (fun hc => ?_) (fun hc => ?_)
          · replace h := if_f h hc
            refine lv_aload_n hx hb dMa_standsFor_33 rfl (lv_at hl 0 rfl) ?_
            refine g_Ma_outerScopes cx hP  t_138 dMa_standsFor_34 ?_
            refine lv_iload_n hx hb dMa_standsFor_37 rfl (lv_at hl 3 rfl) ?_
            obtain ⟨b7, h⟩ := gd_some h
            refine q_iald cx hP (by decide) (e_14 g) b7 dMa_standsFor_38 ?_
            obtain ⟨x8, ex8, h⟩ := lt_some h
            refine q_nmi ex8 ?_
            refine lv_istore_n (lv' := [(3, .int x8), (0, .ref (ad g 11)), (1, .int v1), (2, .int v2), (4, .int v4)]) hx hb dMa_standsFor_39 rfl hl (Nat.le_of_ble_eq_true rfl) rfl (fun ls hl => ?_)
            obtain ⟨x9, ex9, h⟩ := lt_some h
            refine lv_iinc (lv' := [(4, .int x9), (3, .int x8), (0, .ref (ad g 11)), (1, .int v1), (2, .int v2)]) hx hb dMa_standsFor_40 hl (k := 4) rfl (q_inc ex9 (by decide)) (Nat.le_of_ble_eq_true rfl) rfl (fun ls hl => ?_)
            refine lv_goto (tgt := 5) hx hb dMa_standsFor_43 (by decide) ?_
            exact ih5 _ _ _ _ _ (K5 _ (Option.some.inj h).symm) _ _ _ (lv_sub hl [2, 3, 4, 1, 0] rfl) hP hS
          · replace h := if_t h hc
            obtain ⟨z10, h, ez10⟩ := inrM_some h
            rw [E5 z10 ez10] at h
            refine lv_aload_n hx hb dMa_standsFor_26 rfl (lv_at hl 0 rfl) ?_
            refine g_Ma_boundValues cx hP  t_137 dMa_standsFor_27 ?_
            refine lv_iload_n hx hb dMa_standsFor_30 rfl (lv_at hl 3 rfl) ?_
            obtain ⟨b11, h⟩ := gd_some h
            refine q_lald cx hP (by decide) (e_13 g) b11 dMa_standsFor_31 ?_
            exact q_rl cx hr hP hS hQ h dMa_standsFor_32
  exact L5 _ _ _ _ _ _ h _ _ _ (lv_sub hl [2, 3, 4, 1, 0] rfl) hP hS
theorem dMa_runSum_0 : decode cMa_runSum 0 = .ok (.aload_n 0, 1) := by decide +kernel
theorem dMa_runSum_1 : decode cMa_runSum 1 = .ok (.aload_n 1, 1) := by decide +kernel
theorem dMa_runSum_2 : decode cMa_runSum 2 = .ok (.aload_n 2, 1) := by decide +kernel
theorem dMa_runSum_3 : decode cMa_runSum 3 = .ok (.aload_n 1, 1) := by decide +kernel
theorem dMa_runSum_4 : decode cMa_runSum 4 = .ok (.iload_n 3, 1) := by decide +kernel
theorem dMa_runSum_5 : decode cMa_runSum 5 = .ok (.iconst 0, 1) := by decide +kernel
theorem dMa_runSum_6 : decode cMa_runSum 6 = .ok (.invokevirtual 64, 3) := by decide +kernel
theorem dMa_runSum_9 : decode cMa_runSum 9 = .ok (.iload 4, 2) := by decide +kernel
theorem dMa_runSum_11 : decode cMa_runSum 11 = .ok (.iload 5, 2) := by decide +kernel
theorem dMa_runSum_13 : decode cMa_runSum 13 = .ok (.iconst 1, 1) := by decide +kernel
theorem dMa_runSum_14 : decode cMa_runSum 14 = .ok (.iadd, 1) := by decide +kernel
theorem dMa_runSum_15 : decode cMa_runSum 15 = .ok (.invokevirtual 32, 3) := by decide +kernel
theorem dMa_runSum_18 : decode cMa_runSum 18 = .ok (.lstore 6, 2) := by decide +kernel
theorem dMa_runSum_20 : decode cMa_runSum 20 = .ok (.lload 6, 2) := by decide +kernel
theorem dMa_runSum_22 : decode cMa_runSum 22 = .ok (.invokestatic 36, 3) := by decide +kernel
theorem dMa_runSum_25 : decode cMa_runSum 25 = .ok (.iconst 3, 1) := by decide +kernel
theorem dMa_runSum_26 : decode cMa_runSum 26 = .ok (.if_icmp .ne 6, 3) := by decide +kernel
theorem dMa_runSum_29 : decode cMa_runSum 29 = .ok (.lload 6, 2) := by decide +kernel
theorem dMa_runSum_31 : decode cMa_runSum 31 = .ok (.lreturn, 1) := by decide +kernel
theorem dMa_runSum_32 : decode cMa_runSum 32 = .ok (.aload_n 0, 1) := by decide +kernel
theorem dMa_runSum_33 : decode cMa_runSum 33 = .ok (.aload_n 1, 1) := by decide +kernel
theorem dMa_runSum_34 : decode cMa_runSum 34 = .ok (.aload_n 2, 1) := by decide +kernel
theorem dMa_runSum_35 : decode cMa_runSum 35 = .ok (.aload_n 1, 1) := by decide +kernel
theorem dMa_runSum_36 : decode cMa_runSum 36 = .ok (.iload_n 3, 1) := by decide +kernel
theorem dMa_runSum_37 : decode cMa_runSum 37 = .ok (.iconst 1, 1) := by decide +kernel
theorem dMa_runSum_38 : decode cMa_runSum 38 = .ok (.invokevirtual 64, 3) := by decide +kernel
theorem dMa_runSum_41 : decode cMa_runSum 41 = .ok (.iload 4, 2) := by decide +kernel
theorem dMa_runSum_43 : decode cMa_runSum 43 = .ok (.iload 5, 2) := by decide +kernel
theorem dMa_runSum_45 : decode cMa_runSum 45 = .ok (.iconst 1, 1) := by decide +kernel
theorem dMa_runSum_46 : decode cMa_runSum 46 = .ok (.iadd, 1) := by decide +kernel
theorem dMa_runSum_47 : decode cMa_runSum 47 = .ok (.invokevirtual 32, 3) := by decide +kernel
theorem dMa_runSum_50 : decode cMa_runSum 50 = .ok (.lstore 8, 2) := by decide +kernel
theorem dMa_runSum_52 : decode cMa_runSum 52 = .ok (.lload 8, 2) := by decide +kernel
theorem dMa_runSum_54 : decode cMa_runSum 54 = .ok (.invokestatic 36, 3) := by decide +kernel
theorem dMa_runSum_57 : decode cMa_runSum 57 = .ok (.iconst 3, 1) := by decide +kernel
theorem dMa_runSum_58 : decode cMa_runSum 58 = .ok (.if_icmp .ne 6, 3) := by decide +kernel
theorem dMa_runSum_61 : decode cMa_runSum 61 = .ok (.lload 8, 2) := by decide +kernel
theorem dMa_runSum_63 : decode cMa_runSum 63 = .ok (.lreturn, 1) := by decide +kernel
theorem dMa_runSum_64 : decode cMa_runSum 64 = .ok (.lload 6, 2) := by decide +kernel
theorem dMa_runSum_66 : decode cMa_runSum 66 = .ok (.invokestatic 36, 3) := by decide +kernel
theorem dMa_runSum_69 : decode cMa_runSum 69 = .ok (.ifCond .ne 11, 3) := by decide +kernel
theorem dMa_runSum_72 : decode cMa_runSum 72 = .ok (.lload 8, 2) := by decide +kernel
theorem dMa_runSum_74 : decode cMa_runSum 74 = .ok (.invokestatic 36, 3) := by decide +kernel
theorem dMa_runSum_77 : decode cMa_runSum 77 = .ok (.ifCond .eq 9, 3) := by decide +kernel
theorem dMa_runSum_80 : decode cMa_runSum 80 = .ok (.iconst 2, 1) := by decide +kernel
theorem dMa_runSum_81 : decode cMa_runSum 81 = .ok (.iconst 0, 1) := by decide +kernel
theorem dMa_runSum_82 : decode cMa_runSum 82 = .ok (.invokestatic 43, 3) := by decide +kernel
theorem dMa_runSum_85 : decode cMa_runSum 85 = .ok (.lreturn, 1) := by decide +kernel
theorem dMa_runSum_86 : decode cMa_runSum 86 = .ok (.iconst 0, 1) := by decide +kernel
theorem dMa_runSum_87 : decode cMa_runSum 87 = .ok (.lload 6, 2) := by decide +kernel
theorem dMa_runSum_89 : decode cMa_runSum 89 = .ok (.invokestatic 40, 3) := by decide +kernel
theorem dMa_runSum_92 : decode cMa_runSum 92 = .ok (.lload 8, 2) := by decide +kernel
theorem dMa_runSum_94 : decode cMa_runSum 94 = .ok (.invokestatic 40, 3) := by decide +kernel
theorem dMa_runSum_97 : decode cMa_runSum 97 = .ok (.iadd, 1) := by decide +kernel
theorem dMa_runSum_98 : decode cMa_runSum 98 = .ok (.invokestatic 43, 3) := by decide +kernel
theorem dMa_runSum_101 : decode cMa_runSum 101 = .ok (.lreturn, 1) := by decide +kernel
def f_Ma_runSum_J80 (rc : Nat → Int32 → Int32 → Int32 → Mem → Option (Int64 × Mem)) (i : Nat) (v3 : Int32) (v4 : Int32) (v5 : Int32) (v6 : Int64) (v8 : Int64) (σ : Mem) : Option (Int64 × Mem) :=
  bn (f_Ma_value (2 : Int32) (0 : Int32) σ) fun (r3 : Int64) (σ2 : Mem) =>
  some (r3, σ2)
def f_Ma_runSum (rc : Nat → Int32 → Int32 → Int32 → Mem → Option (Int64 × Mem)) (i : Nat) (v3 : Int32) (v4 : Int32) (v5 : Int32) (σ : Mem) : Option (Int64 × Mem) :=
  bn (f_Pr_part i v3 (0 : Int32) σ) fun (r6 : Int32) (σ5 : Mem) =>
  bn (rc i r6 v4 (v5 + (1 : Int32)) σ5) fun (r9 : Int64) (σ8 : Mem) =>
  bn (f_Ma_outcome r9 σ8) fun (r12 : Int32) (σ11 : Mem) =>
  if r12 = (3 : Int32) then (
  some (r9, σ11))
  else (
  bn (f_Pr_part i v3 (1 : Int32) σ11) fun (r15 : Int32) (σ14 : Mem) =>
  bn (rc i r15 v4 (v5 + (1 : Int32)) σ14) fun (r18 : Int64) (σ17 : Mem) =>
  bn (f_Ma_outcome r18 σ17) fun (r21 : Int32) (σ20 : Mem) =>
  if r21 = (3 : Int32) then (
  some (r18, σ20))
  else (
  bn (f_Ma_outcome r9 σ20) fun (r24 : Int32) (σ23 : Mem) =>
  if r24 = 0 then (
  bn (f_Ma_outcome r18 σ23) fun (r27 : Int32) (σ26 : Mem) =>
  if r27 = 0 then (
  bn (f_Ma_content r9 σ26) fun (r30 : Int32) (σ29 : Mem) =>
  bn (f_Ma_content r18 σ29) fun (r33 : Int32) (σ32 : Mem) =>
  bn (f_Ma_value (0 : Int32) (r30 + r33) σ32) fun (r36 : Int64) (σ35 : Mem) =>
  some (r36, σ35))
  else (
  f_Ma_runSum_J80 rc i v3 v4 v5 r9 r18 σ26))
  else (
  f_Ma_runSum_J80 rc i v3 v4 v5 r9 r18 σ23)))
set_option maxHeartbeats 4000000 in
set_option maxRecDepth 100000 in
theorem c_Ma_runSum (l : Launch) (g : Gw) (hg : wInj g) {rc : Nat → Int32 → Int32 → Int32 → Mem → Option (Int64 × Mem)} {d0 : Nat} (hd0 : 2 ≤ d0) (hrc : ∀ {i : Nat} (hi : i < 17) {v3 : Int32} {v4 : Int32} {v5 : Int32} {r0 : Int64} {σ σ0 : Mem}, rc i v3 v4 v5 σ = some (r0, σ0) → KL l yMa_runTerm cMa_runTerm 6 (some .long) d0 g [.ref (ad g 11), .ref (ad g (cP i)), .ref (ad g 6), .int v3, .int v4, .int v5] σ r0 σ0) {i : Nat} (hi : i < 17) {v3 : Int32} {v4 : Int32} {v5 : Int32} {r0 : Int64} {σ σ0 : Mem} (h : f_Ma_runSum rc i v3 v4 v5 σ = some (r0, σ0)) : KL l yMa_runSum cMa_runSum 10 (some .long) (d0 + 1) g [.ref (ad g 11), .ref (ad g (cP i)), .ref (ad g 6), .int v3, .int v4, .int v5] σ r0 σ0 := by
  refine q_met g hg (own := "TermBench$Machine") rfl rfl (Nat.le_of_ble_eq_true rfl) (fun p e s m args below meth c R Q cx hRk hr hQ H locs ls hP hS hl => ?_)
  have hx := cx.1
  have hb := cx.2.1
  have hown := cx.2.2.2.1
  have hts := cx.2.2.2.2.1
  have hl : lv_has ls 10 [(0, .ref (ad g 11)), (1, .ref (ad g (cP i))), (2, .ref (ad g 6)), (3, .int v3), (4, .int v4), (5, .int v5)] := hl
  have J80 : ∀ (v3 : Int32) (v4 : Int32) (v5 : Int32) (v6 : Int64) (v8 : Int64) (σ : Mem), f_Ma_runSum_J80 rc i v3 v4 v5 v6 v8 σ = some (r0, σ0) → ∀ (H : Heap) (locs : List Loc) (ls : Array Slot), lv_has ls 10 [(0, .ref (ad g 11)), (1, .ref (ad g (cP i))), (2, .ref (ad g 6)), (3, .int v3), (4, .int v4), (5, .int v5), (6, .long v6), (8, .long v8)] → Wd g σ H → va_S (wA g) s.heap H locs → W p l e R s m args below meth c H locs 0 0 Q (F0 m 80 ls []) := by
    intro v3 v4 v5 v6 v8 σ h H locs ls hl hP hS
    unfold f_Ma_runSum_J80 at h
    refine lv_iconst (v := 2) hx hb dMa_runSum_80 (by decide) ?_
    refine lv_iconst (v := 0) hx hb dMa_runSum_81 (by decide) ?_
    obtain ⟨r3, σ2, h1, h⟩ := bn_some h
    refine q_cSl (rest := []) (As := [.int (2 : Int32), .int (0 : Int32)]) cx hP hS hRk (c_Ma_value l g hg h1) Y_Ma_value S_Ma_value t_490 (by omega) rfl hl.1 rfl (Nat.le_of_ble_eq_true rfl) dMa_runSum_82 (fun H locs hP hS => ?_)
    exact q_rl cx hr hP hS hQ h dMa_runSum_85
  unfold f_Ma_runSum at h
  refine lv_aload_n hx hb dMa_runSum_0 rfl (lv_at hl 0 rfl) ?_
  refine lv_aload_n hx hb dMa_runSum_1 rfl (lv_at hl 1 rfl) ?_
  refine lv_aload_n hx hb dMa_runSum_2 rfl (lv_at hl 2 rfl) ?_
  refine lv_aload_n hx hb dMa_runSum_3 rfl (lv_at hl 1 rfl) ?_
  refine lv_iload_n hx hb dMa_runSum_4 rfl (lv_at hl 3 rfl) ?_
  refine lv_iconst (v := 0) hx hb dMa_runSum_5 (by decide) ?_
  obtain ⟨r6, σ5, h4, h⟩ := bn_some h
  refine q_cVi (rest := [.ref (ad g 6), .ref (ad g (cP i)), .ref (ad g 11)]) (As := [.int v3, .int (0 : Int32)]) cx hP hS hRk (c_Pr_part l g hg hi h4) Y_Pr_part V_Pr_part t_501 (by omega) (l_cP hi) (e_cP g hi _ _) rfl rfl hl.1 rfl (Nat.le_of_ble_eq_true rfl) dMa_runSum_6 (fun H locs hP hS => ?_)
  refine lv_iload hx hb dMa_runSum_9 (lv_at hl 4 rfl) ?_
  refine lv_iload hx hb dMa_runSum_11 (lv_at hl 5 rfl) ?_
  refine lv_iconst (v := 1) hx hb dMa_runSum_13 (by decide) ?_
  refine lv_iadd hx hb dMa_runSum_14 ?_
  obtain ⟨r9, σ8, h7, h⟩ := bn_some h
  refine q_cVl (rest := []) (As := [.ref (ad g (cP i)), .ref (ad g 6), .int r6, .int v4, .int (v5 + (1 : Int32))]) cx hP hS hRk (hrc hi h7) Y_Ma_runTerm V_Ma_runTerm t_486 (by omega) (by decide) (e_11 g _ _) rfl rfl hl.1 rfl (Nat.le_of_ble_eq_true rfl) dMa_runSum_15 (fun H locs hP hS => ?_)
  refine lv_lstore (lv' := [(6, .long r9), (0, .ref (ad g 11)), (1, .ref (ad g (cP i))), (2, .ref (ad g 6)), (3, .int v3), (4, .int v4), (5, .int v5)]) hx hb dMa_runSum_18 hl (Nat.le_of_ble_eq_true rfl) rfl (fun ls hl => ?_)
  refine lv_lload hx hb dMa_runSum_20 (lv_at hl 0 rfl) ?_
  obtain ⟨r12, σ11, h10, h⟩ := bn_some h
  refine q_cSi (rest := []) (As := [.long r9]) cx hP hS hRk (c_Ma_outcome l g hg h10) Y_Ma_outcome S_Ma_outcome t_502 (by omega) rfl hl.1 rfl (Nat.le_of_ble_eq_true rfl) dMa_runSum_22 (fun H locs hP hS => ?_)
  refine lv_iconst (v := 3) hx hb dMa_runSum_25 (by decide) ?_
  refine lv_icmp_ne (tgt := 32) hx hb dMa_runSum_26 (by decide) (fun hc => ?_) (fun hc => ?_)
  · replace h := if_f h hc
    refine lv_aload_n hx hb dMa_runSum_32 rfl (lv_at hl 1 rfl) ?_
    refine lv_aload_n hx hb dMa_runSum_33 rfl (lv_at hl 2 rfl) ?_
    refine lv_aload_n hx hb dMa_runSum_34 rfl (lv_at hl 3 rfl) ?_
    refine lv_aload_n hx hb dMa_runSum_35 rfl (lv_at hl 2 rfl) ?_
    refine lv_iload_n hx hb dMa_runSum_36 rfl (lv_at hl 4 rfl) ?_
    refine lv_iconst (v := 1) hx hb dMa_runSum_37 (by decide) ?_
    obtain ⟨r15, σ14, h13, h⟩ := bn_some h
    refine q_cVi (rest := [.ref (ad g 6), .ref (ad g (cP i)), .ref (ad g 11)]) (As := [.int v3, .int (1 : Int32)]) cx hP hS hRk (c_Pr_part l g hg hi h13) Y_Pr_part V_Pr_part t_501 (by omega) (l_cP hi) (e_cP g hi _ _) rfl rfl hl.1 rfl (Nat.le_of_ble_eq_true rfl) dMa_runSum_38 (fun H locs hP hS => ?_)
    refine lv_iload hx hb dMa_runSum_41 (lv_at hl 5 rfl) ?_
    refine lv_iload hx hb dMa_runSum_43 (lv_at hl 6 rfl) ?_
    refine lv_iconst (v := 1) hx hb dMa_runSum_45 (by decide) ?_
    refine lv_iadd hx hb dMa_runSum_46 ?_
    obtain ⟨r18, σ17, h16, h⟩ := bn_some h
    refine q_cVl (rest := []) (As := [.ref (ad g (cP i)), .ref (ad g 6), .int r15, .int v4, .int (v5 + (1 : Int32))]) cx hP hS hRk (hrc hi h16) Y_Ma_runTerm V_Ma_runTerm t_486 (by omega) (by decide) (e_11 g _ _) rfl rfl hl.1 rfl (Nat.le_of_ble_eq_true rfl) dMa_runSum_47 (fun H locs hP hS => ?_)
    refine lv_lstore (lv' := [(8, .long r18), (6, .long r9), (0, .ref (ad g 11)), (1, .ref (ad g (cP i))), (2, .ref (ad g 6)), (3, .int v3), (4, .int v4), (5, .int v5)]) hx hb dMa_runSum_50 hl (Nat.le_of_ble_eq_true rfl) rfl (fun ls hl => ?_)
    refine lv_lload hx hb dMa_runSum_52 (lv_at hl 0 rfl) ?_
    obtain ⟨r21, σ20, h19, h⟩ := bn_some h
    refine q_cSi (rest := []) (As := [.long r18]) cx hP hS hRk (c_Ma_outcome l g hg h19) Y_Ma_outcome S_Ma_outcome t_502 (by omega) rfl hl.1 rfl (Nat.le_of_ble_eq_true rfl) dMa_runSum_54 (fun H locs hP hS => ?_)
    refine lv_iconst (v := 3) hx hb dMa_runSum_57 (by decide) ?_
    refine lv_icmp_ne (tgt := 64) hx hb dMa_runSum_58 (by decide) (fun hc => ?_) (fun hc => ?_)
    · replace h := if_f h hc
      refine lv_lload hx hb dMa_runSum_64 (lv_at hl 1 rfl) ?_
      obtain ⟨r24, σ23, h22, h⟩ := bn_some h
      refine q_cSi (rest := []) (As := [.long r9]) cx hP hS hRk (c_Ma_outcome l g hg h22) Y_Ma_outcome S_Ma_outcome t_502 (by omega) rfl hl.1 rfl (Nat.le_of_ble_eq_true rfl) dMa_runSum_66 (fun H locs hP hS => ?_)
      refine lv_if_ne (tgt := 80) hx hb dMa_runSum_69 (by decide) (fun hc => ?_) (fun hc => ?_)
      · replace h := if_f h hc
        exact J80 _ _ _ _ _ _ h _ _ _ (lv_sub hl [2, 3, 4, 5, 6, 7, 1, 0] rfl) hP hS
      · replace h := if_t h hc
        refine lv_lload hx hb dMa_runSum_72 (lv_at hl 0 rfl) ?_
        obtain ⟨r27, σ26, h25, h⟩ := bn_some h
        refine q_cSi (rest := []) (As := [.long r18]) cx hP hS hRk (c_Ma_outcome l g hg h25) Y_Ma_outcome S_Ma_outcome t_502 (by omega) rfl hl.1 rfl (Nat.le_of_ble_eq_true rfl) dMa_runSum_74 (fun H locs hP hS => ?_)
        refine lv_if_eq (tgt := 86) hx hb dMa_runSum_77 (by decide) (fun hc => ?_) (fun hc => ?_)
        · replace h := if_t h hc
          refine lv_iconst (v := 0) hx hb dMa_runSum_86 (by decide) ?_
          refine lv_lload hx hb dMa_runSum_87 (lv_at hl 1 rfl) ?_
          obtain ⟨r30, σ29, h28, h⟩ := bn_some h
          refine q_cSi (rest := [.int (0 : Int32)]) (As := [.long r9]) cx hP hS hRk (c_Ma_content l g hg h28) Y_Ma_content S_Ma_content t_505 (by omega) rfl hl.1 rfl (Nat.le_of_ble_eq_true rfl) dMa_runSum_89 (fun H locs hP hS => ?_)
          refine lv_lload hx hb dMa_runSum_92 (lv_at hl 0 rfl) ?_
          obtain ⟨r33, σ32, h31, h⟩ := bn_some h
          refine q_cSi (rest := [.int r30, .int (0 : Int32)]) (As := [.long r18]) cx hP hS hRk (c_Ma_content l g hg h31) Y_Ma_content S_Ma_content t_505 (by omega) rfl hl.1 rfl (Nat.le_of_ble_eq_true rfl) dMa_runSum_94 (fun H locs hP hS => ?_)
          refine lv_iadd hx hb dMa_runSum_97 ?_
          obtain ⟨r36, σ35, h34, h⟩ := bn_some h
          refine q_cSl (rest := []) (As := [.int (0 : Int32), .int (r30 + r33)]) cx hP hS hRk (c_Ma_value l g hg h34) Y_Ma_value S_Ma_value t_490 (by omega) rfl hl.1 rfl (Nat.le_of_ble_eq_true rfl) dMa_runSum_98 (fun H locs hP hS => ?_)
          exact q_rl cx hr hP hS hQ h dMa_runSum_101
        · replace h := if_f h hc
          exact J80 _ _ _ _ _ _ h _ _ _ (lv_sub hl [2, 3, 4, 5, 6, 7, 1, 0] rfl) hP hS
    · replace h := if_t h hc
      refine lv_lload hx hb dMa_runSum_61 (lv_at hl 0 rfl) ?_
      exact q_rl cx hr hP hS hQ h dMa_runSum_63
  · replace h := if_t h hc
    refine lv_lload hx hb dMa_runSum_29 (lv_at hl 0 rfl) ?_
    exact q_rl cx hr hP hS hQ h dMa_runSum_31
theorem dMa_runCall_0 : decode cMa_runCall 0 = .ok (.aload_n 0, 1) := by decide +kernel
theorem dMa_runCall_1 : decode cMa_runCall 1 = .ok (.aload_n 1, 1) := by decide +kernel
theorem dMa_runCall_2 : decode cMa_runCall 2 = .ok (.aload_n 2, 1) := by decide +kernel
theorem dMa_runCall_3 : decode cMa_runCall 3 = .ok (.aload_n 1, 1) := by decide +kernel
theorem dMa_runCall_4 : decode cMa_runCall 4 = .ok (.iload_n 3, 1) := by decide +kernel
theorem dMa_runCall_5 : decode cMa_runCall 5 = .ok (.iconst 0, 1) := by decide +kernel
theorem dMa_runCall_6 : decode cMa_runCall 6 = .ok (.invokevirtual 64, 3) := by decide +kernel
theorem dMa_runCall_9 : decode cMa_runCall 9 = .ok (.iload 4, 2) := by decide +kernel
theorem dMa_runCall_11 : decode cMa_runCall 11 = .ok (.iload 5, 2) := by decide +kernel
theorem dMa_runCall_13 : decode cMa_runCall 13 = .ok (.iconst 1, 1) := by decide +kernel
theorem dMa_runCall_14 : decode cMa_runCall 14 = .ok (.iadd, 1) := by decide +kernel
theorem dMa_runCall_15 : decode cMa_runCall 15 = .ok (.invokevirtual 32, 3) := by decide +kernel
theorem dMa_runCall_18 : decode cMa_runCall 18 = .ok (.lstore 6, 2) := by decide +kernel
theorem dMa_runCall_20 : decode cMa_runCall 20 = .ok (.lload 6, 2) := by decide +kernel
theorem dMa_runCall_22 : decode cMa_runCall 22 = .ok (.invokestatic 36, 3) := by decide +kernel
theorem dMa_runCall_25 : decode cMa_runCall 25 = .ok (.iconst 3, 1) := by decide +kernel
theorem dMa_runCall_26 : decode cMa_runCall 26 = .ok (.if_icmp .ne 6, 3) := by decide +kernel
theorem dMa_runCall_29 : decode cMa_runCall 29 = .ok (.lload 6, 2) := by decide +kernel
theorem dMa_runCall_31 : decode cMa_runCall 31 = .ok (.lreturn, 1) := by decide +kernel
theorem dMa_runCall_32 : decode cMa_runCall 32 = .ok (.aload_n 0, 1) := by decide +kernel
theorem dMa_runCall_33 : decode cMa_runCall 33 = .ok (.aload_n 1, 1) := by decide +kernel
theorem dMa_runCall_34 : decode cMa_runCall 34 = .ok (.aload_n 2, 1) := by decide +kernel
theorem dMa_runCall_35 : decode cMa_runCall 35 = .ok (.aload_n 1, 1) := by decide +kernel
theorem dMa_runCall_36 : decode cMa_runCall 36 = .ok (.iload_n 3, 1) := by decide +kernel
theorem dMa_runCall_37 : decode cMa_runCall 37 = .ok (.iconst 1, 1) := by decide +kernel
theorem dMa_runCall_38 : decode cMa_runCall 38 = .ok (.invokevirtual 64, 3) := by decide +kernel
theorem dMa_runCall_41 : decode cMa_runCall 41 = .ok (.iload 4, 2) := by decide +kernel
theorem dMa_runCall_43 : decode cMa_runCall 43 = .ok (.iload 5, 2) := by decide +kernel
theorem dMa_runCall_45 : decode cMa_runCall 45 = .ok (.iconst 1, 1) := by decide +kernel
theorem dMa_runCall_46 : decode cMa_runCall 46 = .ok (.iadd, 1) := by decide +kernel
theorem dMa_runCall_47 : decode cMa_runCall 47 = .ok (.invokevirtual 32, 3) := by decide +kernel
theorem dMa_runCall_50 : decode cMa_runCall 50 = .ok (.lstore 8, 2) := by decide +kernel
theorem dMa_runCall_52 : decode cMa_runCall 52 = .ok (.lload 8, 2) := by decide +kernel
theorem dMa_runCall_54 : decode cMa_runCall 54 = .ok (.invokestatic 36, 3) := by decide +kernel
theorem dMa_runCall_57 : decode cMa_runCall 57 = .ok (.iconst 3, 1) := by decide +kernel
theorem dMa_runCall_58 : decode cMa_runCall 58 = .ok (.if_icmp .ne 6, 3) := by decide +kernel
theorem dMa_runCall_61 : decode cMa_runCall 61 = .ok (.lload 8, 2) := by decide +kernel
theorem dMa_runCall_63 : decode cMa_runCall 63 = .ok (.lreturn, 1) := by decide +kernel
theorem dMa_runCall_64 : decode cMa_runCall 64 = .ok (.lload 6, 2) := by decide +kernel
theorem dMa_runCall_66 : decode cMa_runCall 66 = .ok (.invokestatic 36, 3) := by decide +kernel
theorem dMa_runCall_69 : decode cMa_runCall 69 = .ok (.iconst 1, 1) := by decide +kernel
theorem dMa_runCall_70 : decode cMa_runCall 70 = .ok (.if_icmp .eq 9, 3) := by decide +kernel
theorem dMa_runCall_73 : decode cMa_runCall 73 = .ok (.iconst 2, 1) := by decide +kernel
theorem dMa_runCall_74 : decode cMa_runCall 74 = .ok (.iconst 0, 1) := by decide +kernel
theorem dMa_runCall_75 : decode cMa_runCall 75 = .ok (.invokestatic 43, 3) := by decide +kernel
theorem dMa_runCall_78 : decode cMa_runCall 78 = .ok (.lreturn, 1) := by decide +kernel
theorem dMa_runCall_79 : decode cMa_runCall 79 = .ok (.lload 6, 2) := by decide +kernel
theorem dMa_runCall_81 : decode cMa_runCall 81 = .ok (.invokestatic 40, 3) := by decide +kernel
theorem dMa_runCall_84 : decode cMa_runCall 84 = .ok (.bipush 40, 2) := by decide +kernel
theorem dMa_runCall_86 : decode cMa_runCall 86 = .ok (.irem, 1) := by decide +kernel
theorem dMa_runCall_87 : decode cMa_runCall 87 = .ok (.istore 10, 2) := by decide +kernel
theorem dMa_runCall_89 : decode cMa_runCall 89 = .ok (.lload 6, 2) := by decide +kernel
theorem dMa_runCall_91 : decode cMa_runCall 91 = .ok (.invokestatic 40, 3) := by decide +kernel
theorem dMa_runCall_94 : decode cMa_runCall 94 = .ok (.bipush 40, 2) := by decide +kernel
theorem dMa_runCall_96 : decode cMa_runCall 96 = .ok (.idiv, 1) := by decide +kernel
theorem dMa_runCall_97 : decode cMa_runCall 97 = .ok (.istore 11, 2) := by decide +kernel
theorem dMa_runCall_99 : decode cMa_runCall 99 = .ok (.aload_n 0, 1) := by decide +kernel
theorem dMa_runCall_100 : decode cMa_runCall 100 = .ok (.aload_n 1, 1) := by decide +kernel
theorem dMa_runCall_101 : decode cMa_runCall 101 = .ok (.getfield 52, 3) := by decide +kernel
theorem dMa_runCall_104 : decode cMa_runCall 104 = .ok (.iload 10, 2) := by decide +kernel
theorem dMa_runCall_106 : decode cMa_runCall 106 = .ok (.iaload, 1) := by decide +kernel
theorem dMa_runCall_107 : decode cMa_runCall 107 = .ok (.lload 8, 2) := by decide +kernel
theorem dMa_runCall_109 : decode cMa_runCall 109 = .ok (.iload 11, 2) := by decide +kernel
theorem dMa_runCall_111 : decode cMa_runCall 111 = .ok (.invokevirtual 68, 3) := by decide +kernel
theorem dMa_runCall_114 : decode cMa_runCall 114 = .ok (.istore 12, 2) := by decide +kernel
theorem dMa_runCall_116 : decode cMa_runCall 116 = .ok (.aload_n 0, 1) := by decide +kernel
theorem dMa_runCall_117 : decode cMa_runCall 117 = .ok (.aload_n 1, 1) := by decide +kernel
theorem dMa_runCall_118 : decode cMa_runCall 118 = .ok (.aload_n 2, 1) := by decide +kernel
theorem dMa_runCall_119 : decode cMa_runCall 119 = .ok (.aload_n 1, 1) := by decide +kernel
theorem dMa_runCall_120 : decode cMa_runCall 120 = .ok (.iload 10, 2) := by decide +kernel
theorem dMa_runCall_122 : decode cMa_runCall 122 = .ok (.iconst 0, 1) := by decide +kernel
theorem dMa_runCall_123 : decode cMa_runCall 123 = .ok (.invokevirtual 64, 3) := by decide +kernel
theorem dMa_runCall_126 : decode cMa_runCall 126 = .ok (.iload 12, 2) := by decide +kernel
theorem dMa_runCall_128 : decode cMa_runCall 128 = .ok (.iload 5, 2) := by decide +kernel
theorem dMa_runCall_130 : decode cMa_runCall 130 = .ok (.iconst 1, 1) := by decide +kernel
theorem dMa_runCall_131 : decode cMa_runCall 131 = .ok (.iadd, 1) := by decide +kernel
theorem dMa_runCall_132 : decode cMa_runCall 132 = .ok (.invokevirtual 32, 3) := by decide +kernel
theorem dMa_runCall_135 : decode cMa_runCall 135 = .ok (.lreturn, 1) := by decide +kernel
def f_Ma_runCall (rc : Nat → Int32 → Int32 → Int32 → Mem → Option (Int64 × Mem)) (i : Nat) (v3 : Int32) (v4 : Int32) (v5 : Int32) (σ : Mem) : Option (Int64 × Mem) :=
  bn (f_Pr_part i v3 (0 : Int32) σ) fun (r3 : Int32) (σ2 : Mem) =>
  bn (rc i r3 v4 (v5 + (1 : Int32)) σ2) fun (r6 : Int64) (σ5 : Mem) =>
  bn (f_Ma_outcome r6 σ5) fun (r9 : Int32) (σ8 : Mem) =>
  if r9 = (3 : Int32) then (
  some (r6, σ8))
  else (
  bn (f_Pr_part i v3 (1 : Int32) σ8) fun (r12 : Int32) (σ11 : Mem) =>
  bn (rc i r12 v4 (v5 + (1 : Int32)) σ11) fun (r15 : Int64) (σ14 : Mem) =>
  bn (f_Ma_outcome r15 σ14) fun (r18 : Int32) (σ17 : Mem) =>
  if r18 = (3 : Int32) then (
  some (r15, σ17))
  else (
  bn (f_Ma_outcome r6 σ17) fun (r21 : Int32) (σ20 : Mem) =>
  if r21 = (1 : Int32) then (
  bn (f_Ma_content r6 σ20) fun (r24 : Int32) (σ23 : Mem) =>
  lt_ (r24 - r24 / (40 : Int32) * (40 : Int32)) fun (x25 : Int32) =>
  bn (f_Ma_content r6 σ23) fun (r28 : Int32) (σ27 : Mem) =>
  lt_ (r28 / (40 : Int32)) fun (x29 : Int32) =>
  gd (inb x25 40) (
  bn (f_Ma_bind (σ27.1 (cPf i) x25.toNatClampNeg) r15 x29 σ27) fun (r33 : Int32) (σ32 : Mem) =>
  bn (f_Pr_part i x25 (0 : Int32) σ32) fun (r36 : Int32) (σ35 : Mem) =>
  bn (rc i r36 r33 (v5 + (1 : Int32)) σ35) fun (r39 : Int64) (σ38 : Mem) =>
  some (r39, σ38)))
  else (
  bn (f_Ma_value (2 : Int32) (0 : Int32) σ20) fun (r42 : Int64) (σ41 : Mem) =>
  some (r42, σ41))))
set_option maxHeartbeats 4000000 in
set_option maxRecDepth 100000 in
theorem c_Ma_runCall (l : Launch) (g : Gw) (hg : wInj g) {rc : Nat → Int32 → Int32 → Int32 → Mem → Option (Int64 × Mem)} {d0 : Nat} (hd0 : 2 ≤ d0) (hrc : ∀ {i : Nat} (hi : i < 17) {v3 : Int32} {v4 : Int32} {v5 : Int32} {r0 : Int64} {σ σ0 : Mem}, rc i v3 v4 v5 σ = some (r0, σ0) → KL l yMa_runTerm cMa_runTerm 6 (some .long) d0 g [.ref (ad g 11), .ref (ad g (cP i)), .ref (ad g 6), .int v3, .int v4, .int v5] σ r0 σ0) {i : Nat} (hi : i < 17) {v3 : Int32} {v4 : Int32} {v5 : Int32} {r0 : Int64} {σ σ0 : Mem} (h : f_Ma_runCall rc i v3 v4 v5 σ = some (r0, σ0)) : KL l yMa_runCall cMa_runCall 13 (some .long) (d0 + 1) g [.ref (ad g 11), .ref (ad g (cP i)), .ref (ad g 6), .int v3, .int v4, .int v5] σ r0 σ0 := by
  refine q_met g hg (own := "TermBench$Machine") rfl rfl (Nat.le_of_ble_eq_true rfl) (fun p e s m args below meth c R Q cx hRk hr hQ H locs ls hP hS hl => ?_)
  have hx := cx.1
  have hb := cx.2.1
  have hown := cx.2.2.2.1
  have hts := cx.2.2.2.2.1
  have hl : lv_has ls 13 [(0, .ref (ad g 11)), (1, .ref (ad g (cP i))), (2, .ref (ad g 6)), (3, .int v3), (4, .int v4), (5, .int v5)] := hl
  unfold f_Ma_runCall at h
  refine lv_aload_n hx hb dMa_runCall_0 rfl (lv_at hl 0 rfl) ?_
  refine lv_aload_n hx hb dMa_runCall_1 rfl (lv_at hl 1 rfl) ?_
  refine lv_aload_n hx hb dMa_runCall_2 rfl (lv_at hl 2 rfl) ?_
  refine lv_aload_n hx hb dMa_runCall_3 rfl (lv_at hl 1 rfl) ?_
  refine lv_iload_n hx hb dMa_runCall_4 rfl (lv_at hl 3 rfl) ?_
  refine lv_iconst (v := 0) hx hb dMa_runCall_5 (by decide) ?_
  obtain ⟨r3, σ2, h1, h⟩ := bn_some h
  refine q_cVi (rest := [.ref (ad g 6), .ref (ad g (cP i)), .ref (ad g 11)]) (As := [.int v3, .int (0 : Int32)]) cx hP hS hRk (c_Pr_part l g hg hi h1) Y_Pr_part V_Pr_part t_501 (by omega) (l_cP hi) (e_cP g hi _ _) rfl rfl hl.1 rfl (Nat.le_of_ble_eq_true rfl) dMa_runCall_6 (fun H locs hP hS => ?_)
  refine lv_iload hx hb dMa_runCall_9 (lv_at hl 4 rfl) ?_
  refine lv_iload hx hb dMa_runCall_11 (lv_at hl 5 rfl) ?_
  refine lv_iconst (v := 1) hx hb dMa_runCall_13 (by decide) ?_
  refine lv_iadd hx hb dMa_runCall_14 ?_
  obtain ⟨r6, σ5, h4, h⟩ := bn_some h
  refine q_cVl (rest := []) (As := [.ref (ad g (cP i)), .ref (ad g 6), .int r3, .int v4, .int (v5 + (1 : Int32))]) cx hP hS hRk (hrc hi h4) Y_Ma_runTerm V_Ma_runTerm t_486 (by omega) (by decide) (e_11 g _ _) rfl rfl hl.1 rfl (Nat.le_of_ble_eq_true rfl) dMa_runCall_15 (fun H locs hP hS => ?_)
  refine lv_lstore (lv' := [(6, .long r6), (0, .ref (ad g 11)), (1, .ref (ad g (cP i))), (2, .ref (ad g 6)), (3, .int v3), (4, .int v4), (5, .int v5)]) hx hb dMa_runCall_18 hl (Nat.le_of_ble_eq_true rfl) rfl (fun ls hl => ?_)
  refine lv_lload hx hb dMa_runCall_20 (lv_at hl 0 rfl) ?_
  obtain ⟨r9, σ8, h7, h⟩ := bn_some h
  refine q_cSi (rest := []) (As := [.long r6]) cx hP hS hRk (c_Ma_outcome l g hg h7) Y_Ma_outcome S_Ma_outcome t_502 (by omega) rfl hl.1 rfl (Nat.le_of_ble_eq_true rfl) dMa_runCall_22 (fun H locs hP hS => ?_)
  refine lv_iconst (v := 3) hx hb dMa_runCall_25 (by decide) ?_
  refine lv_icmp_ne (tgt := 32) hx hb dMa_runCall_26 (by decide) (fun hc => ?_) (fun hc => ?_)
  · replace h := if_f h hc
    refine lv_aload_n hx hb dMa_runCall_32 rfl (lv_at hl 1 rfl) ?_
    refine lv_aload_n hx hb dMa_runCall_33 rfl (lv_at hl 2 rfl) ?_
    refine lv_aload_n hx hb dMa_runCall_34 rfl (lv_at hl 3 rfl) ?_
    refine lv_aload_n hx hb dMa_runCall_35 rfl (lv_at hl 2 rfl) ?_
    refine lv_iload_n hx hb dMa_runCall_36 rfl (lv_at hl 4 rfl) ?_
    refine lv_iconst (v := 1) hx hb dMa_runCall_37 (by decide) ?_
    obtain ⟨r12, σ11, h10, h⟩ := bn_some h
    refine q_cVi (rest := [.ref (ad g 6), .ref (ad g (cP i)), .ref (ad g 11)]) (As := [.int v3, .int (1 : Int32)]) cx hP hS hRk (c_Pr_part l g hg hi h10) Y_Pr_part V_Pr_part t_501 (by omega) (l_cP hi) (e_cP g hi _ _) rfl rfl hl.1 rfl (Nat.le_of_ble_eq_true rfl) dMa_runCall_38 (fun H locs hP hS => ?_)
    refine lv_iload hx hb dMa_runCall_41 (lv_at hl 5 rfl) ?_
    refine lv_iload hx hb dMa_runCall_43 (lv_at hl 6 rfl) ?_
    refine lv_iconst (v := 1) hx hb dMa_runCall_45 (by decide) ?_
    refine lv_iadd hx hb dMa_runCall_46 ?_
    obtain ⟨r15, σ14, h13, h⟩ := bn_some h
    refine q_cVl (rest := []) (As := [.ref (ad g (cP i)), .ref (ad g 6), .int r12, .int v4, .int (v5 + (1 : Int32))]) cx hP hS hRk (hrc hi h13) Y_Ma_runTerm V_Ma_runTerm t_486 (by omega) (by decide) (e_11 g _ _) rfl rfl hl.1 rfl (Nat.le_of_ble_eq_true rfl) dMa_runCall_47 (fun H locs hP hS => ?_)
    refine lv_lstore (lv' := [(8, .long r15), (6, .long r6), (0, .ref (ad g 11)), (1, .ref (ad g (cP i))), (2, .ref (ad g 6)), (3, .int v3), (4, .int v4), (5, .int v5)]) hx hb dMa_runCall_50 hl (Nat.le_of_ble_eq_true rfl) rfl (fun ls hl => ?_)
    refine lv_lload hx hb dMa_runCall_52 (lv_at hl 0 rfl) ?_
    obtain ⟨r18, σ17, h16, h⟩ := bn_some h
    refine q_cSi (rest := []) (As := [.long r15]) cx hP hS hRk (c_Ma_outcome l g hg h16) Y_Ma_outcome S_Ma_outcome t_502 (by omega) rfl hl.1 rfl (Nat.le_of_ble_eq_true rfl) dMa_runCall_54 (fun H locs hP hS => ?_)
    refine lv_iconst (v := 3) hx hb dMa_runCall_57 (by decide) ?_
    refine lv_icmp_ne (tgt := 64) hx hb dMa_runCall_58 (by decide) (fun hc => ?_) (fun hc => ?_)
    · replace h := if_f h hc
      refine lv_lload hx hb dMa_runCall_64 (lv_at hl 1 rfl) ?_
      obtain ⟨r21, σ20, h19, h⟩ := bn_some h
      refine q_cSi (rest := []) (As := [.long r6]) cx hP hS hRk (c_Ma_outcome l g hg h19) Y_Ma_outcome S_Ma_outcome t_502 (by omega) rfl hl.1 rfl (Nat.le_of_ble_eq_true rfl) dMa_runCall_66 (fun H locs hP hS => ?_)
      refine lv_iconst (v := 1) hx hb dMa_runCall_69 (by decide) ?_
      refine lv_icmp_eq (tgt := 79) hx hb dMa_runCall_70 (by decide) (fun hc => ?_) (fun hc => ?_)
      · replace h := if_t h hc
        refine lv_lload hx hb dMa_runCall_79 (lv_at hl 1 rfl) ?_
        obtain ⟨r24, σ23, h22, h⟩ := bn_some h
        refine q_cSi (rest := []) (As := [.long r6]) cx hP hS hRk (c_Ma_content l g hg h22) Y_Ma_content S_Ma_content t_505 (by omega) rfl hl.1 rfl (Nat.le_of_ble_eq_true rfl) dMa_runCall_81 (fun H locs hP hS => ?_)
        refine lv_bipush (v := 40) hx hb dMa_runCall_84 (by decide) ?_
        refine lv_irem hx hb dMa_runCall_86 (by decide) ?_
        obtain ⟨x25, ex25, h⟩ := lt_some h
        refine q_nmi ex25 ?_
        refine lv_istore (lv' := [(10, .int x25), (8, .long r15), (6, .long r6), (0, .ref (ad g 11)), (1, .ref (ad g (cP i))), (2, .ref (ad g 6)), (3, .int v3), (4, .int v4), (5, .int v5)]) hx hb dMa_runCall_87 hl (Nat.le_of_ble_eq_true rfl) rfl (fun ls hl => ?_)
        refine lv_lload hx hb dMa_runCall_89 (lv_at hl 2 rfl) ?_
        obtain ⟨r28, σ27, h26, h⟩ := bn_some h
        refine q_cSi (rest := []) (As := [.long r6]) cx hP hS hRk (c_Ma_content l g hg h26) Y_Ma_content S_Ma_content t_505 (by omega) rfl hl.1 rfl (Nat.le_of_ble_eq_true rfl) dMa_runCall_91 (fun H locs hP hS => ?_)
        refine lv_bipush (v := 40) hx hb dMa_runCall_94 (by decide) ?_
        refine lv_idiv hx hb dMa_runCall_96 (by decide) ?_
        obtain ⟨x29, ex29, h⟩ := lt_some h
        refine q_nmi ex29 ?_
        refine lv_istore (lv' := [(11, .int x29), (10, .int x25), (8, .long r15), (6, .long r6), (0, .ref (ad g 11)), (1, .ref (ad g (cP i))), (2, .ref (ad g 6)), (3, .int v3), (4, .int v4), (5, .int v5)]) hx hb dMa_runCall_97 hl (Nat.le_of_ble_eq_true rfl) rfl (fun ls hl => ?_)
        refine lv_aload_n hx hb dMa_runCall_99 rfl (lv_at hl 4 rfl) ?_
        refine lv_aload_n hx hb dMa_runCall_100 rfl (lv_at hl 5 rfl) ?_
        refine g_Pr_figures cx hP hi  t_40 dMa_runCall_101 ?_
        refine lv_iload hx hb dMa_runCall_104 (lv_at hl 1 rfl) ?_
        obtain ⟨b30, h⟩ := gd_some h
        refine q_iald cx hP (l_cPf hi) (e_cPf g hi) b30 dMa_runCall_106 ?_
        refine lv_lload hx hb dMa_runCall_107 (lv_at hl 2 rfl) ?_
        refine lv_iload hx hb dMa_runCall_109 (lv_at hl 0 rfl) ?_
        obtain ⟨r33, σ32, h31, h⟩ := bn_some h
        refine q_cVi (rest := []) (As := [.int (σ27.1 (cPf i) x25.toNatClampNeg), .long r15, .int x29]) cx hP hS hRk (c_Ma_bind l g hg h31) Y_Ma_bind V_Ma_bind t_512 (by omega) (by decide) (e_11 g _ _) rfl rfl hl.1 rfl (Nat.le_of_ble_eq_true rfl) dMa_runCall_111 (fun H locs hP hS => ?_)
        refine lv_istore (lv' := [(12, .int r33), (11, .int x29), (10, .int x25), (8, .long r15), (6, .long r6), (0, .ref (ad g 11)), (1, .ref (ad g (cP i))), (2, .ref (ad g 6)), (3, .int v3), (4, .int v4), (5, .int v5)]) hx hb dMa_runCall_114 hl (Nat.le_of_ble_eq_true rfl) rfl (fun ls hl => ?_)
        refine lv_aload_n hx hb dMa_runCall_116 rfl (lv_at hl 5 rfl) ?_
        refine lv_aload_n hx hb dMa_runCall_117 rfl (lv_at hl 6 rfl) ?_
        refine lv_aload_n hx hb dMa_runCall_118 rfl (lv_at hl 7 rfl) ?_
        refine lv_aload_n hx hb dMa_runCall_119 rfl (lv_at hl 6 rfl) ?_
        refine lv_iload hx hb dMa_runCall_120 (lv_at hl 2 rfl) ?_
        refine lv_iconst (v := 0) hx hb dMa_runCall_122 (by decide) ?_
        obtain ⟨r36, σ35, h34, h⟩ := bn_some h
        refine q_cVi (rest := [.ref (ad g 6), .ref (ad g (cP i)), .ref (ad g 11)]) (As := [.int x25, .int (0 : Int32)]) cx hP hS hRk (c_Pr_part l g hg hi h34) Y_Pr_part V_Pr_part t_501 (by omega) (l_cP hi) (e_cP g hi _ _) rfl rfl hl.1 rfl (Nat.le_of_ble_eq_true rfl) dMa_runCall_123 (fun H locs hP hS => ?_)
        refine lv_iload hx hb dMa_runCall_126 (lv_at hl 0 rfl) ?_
        refine lv_iload hx hb dMa_runCall_128 (lv_at hl 10 rfl) ?_
        refine lv_iconst (v := 1) hx hb dMa_runCall_130 (by decide) ?_
        refine lv_iadd hx hb dMa_runCall_131 ?_
        obtain ⟨r39, σ38, h37, h⟩ := bn_some h
        refine q_cVl (rest := []) (As := [.ref (ad g (cP i)), .ref (ad g 6), .int r36, .int r33, .int (v5 + (1 : Int32))]) cx hP hS hRk (hrc hi h37) Y_Ma_runTerm V_Ma_runTerm t_486 (by omega) (by decide) (e_11 g _ _) rfl rfl hl.1 rfl (Nat.le_of_ble_eq_true rfl) dMa_runCall_132 (fun H locs hP hS => ?_)
        exact q_rl cx hr hP hS hQ h dMa_runCall_135
      · replace h := if_f h hc
        refine lv_iconst (v := 2) hx hb dMa_runCall_73 (by decide) ?_
        refine lv_iconst (v := 0) hx hb dMa_runCall_74 (by decide) ?_
        obtain ⟨r42, σ41, h40, h⟩ := bn_some h
        refine q_cSl (rest := []) (As := [.int (2 : Int32), .int (0 : Int32)]) cx hP hS hRk (c_Ma_value l g hg h40) Y_Ma_value S_Ma_value t_490 (by omega) rfl hl.1 rfl (Nat.le_of_ble_eq_true rfl) dMa_runCall_75 (fun H locs hP hS => ?_)
        exact q_rl cx hr hP hS hQ h dMa_runCall_78
    · replace h := if_t h hc
      refine lv_lload hx hb dMa_runCall_61 (lv_at hl 0 rfl) ?_
      exact q_rl cx hr hP hS hQ h dMa_runCall_63
  · replace h := if_t h hc
    refine lv_lload hx hb dMa_runCall_29 (lv_at hl 0 rfl) ?_
    exact q_rl cx hr hP hS hQ h dMa_runCall_31
theorem dMa_runTerm_0 : decode cMa_runTerm 0 = .ok (.iload_n 3, 1) := by decide +kernel
theorem dMa_runTerm_1 : decode cMa_runTerm 1 = .ok (.ifCond .lt 20, 3) := by decide +kernel
theorem dMa_runTerm_4 : decode cMa_runTerm 4 = .ok (.aload_n 0, 1) := by decide +kernel
theorem dMa_runTerm_5 : decode cMa_runTerm 5 = .ok (.getfield 26, 3) := by decide +kernel
theorem dMa_runTerm_8 : decode cMa_runTerm 8 = .ok (.sipush 400, 3) := by decide +kernel
theorem dMa_runTerm_11 : decode cMa_runTerm 11 = .ok (.if_icmp .ge 10, 3) := by decide +kernel
theorem dMa_runTerm_14 : decode cMa_runTerm 14 = .ok (.iload 5, 2) := by decide +kernel
theorem dMa_runTerm_16 : decode cMa_runTerm 16 = .ok (.bipush 60, 2) := by decide +kernel
theorem dMa_runTerm_18 : decode cMa_runTerm 18 = .ok (.if_icmp .lt 9, 3) := by decide +kernel
theorem dMa_runTerm_21 : decode cMa_runTerm 21 = .ok (.iconst 3, 1) := by decide +kernel
theorem dMa_runTerm_22 : decode cMa_runTerm 22 = .ok (.iconst 0, 1) := by decide +kernel
theorem dMa_runTerm_23 : decode cMa_runTerm 23 = .ok (.invokestatic 43, 3) := by decide +kernel
theorem dMa_runTerm_26 : decode cMa_runTerm 26 = .ok (.lreturn, 1) := by decide +kernel
theorem dMa_runTerm_27 : decode cMa_runTerm 27 = .ok (.aload_n 0, 1) := by decide +kernel
theorem dMa_runTerm_28 : decode cMa_runTerm 28 = .ok (.dup, 1) := by decide +kernel
theorem dMa_runTerm_29 : decode cMa_runTerm 29 = .ok (.getfield 26, 3) := by decide +kernel
theorem dMa_runTerm_32 : decode cMa_runTerm 32 = .ok (.iconst 1, 1) := by decide +kernel
theorem dMa_runTerm_33 : decode cMa_runTerm 33 = .ok (.iadd, 1) := by decide +kernel
theorem dMa_runTerm_34 : decode cMa_runTerm 34 = .ok (.putfield 26, 3) := by decide +kernel
theorem dMa_runTerm_37 : decode cMa_runTerm 37 = .ok (.aload_n 2, 1) := by decide +kernel
theorem dMa_runTerm_38 : decode cMa_runTerm 38 = .ok (.iload_n 3, 1) := by decide +kernel
theorem dMa_runTerm_39 : decode cMa_runTerm 39 = .ok (.iaload, 1) := by decide +kernel
theorem dMa_runTerm_40 : decode cMa_runTerm 40 = .ok (.ifCond .eq 9, 3) := by decide +kernel
theorem dMa_runTerm_43 : decode cMa_runTerm 43 = .ok (.iconst 2, 1) := by decide +kernel
theorem dMa_runTerm_44 : decode cMa_runTerm 44 = .ok (.iconst 0, 1) := by decide +kernel
theorem dMa_runTerm_45 : decode cMa_runTerm 45 = .ok (.invokestatic 43, 3) := by decide +kernel
theorem dMa_runTerm_48 : decode cMa_runTerm 48 = .ok (.lreturn, 1) := by decide +kernel
theorem dMa_runTerm_49 : decode cMa_runTerm 49 = .ok (.aload_n 1, 1) := by decide +kernel
theorem dMa_runTerm_50 : decode cMa_runTerm 50 = .ok (.getfield 47, 3) := by decide +kernel
theorem dMa_runTerm_53 : decode cMa_runTerm 53 = .ok (.iload_n 3, 1) := by decide +kernel
theorem dMa_runTerm_54 : decode cMa_runTerm 54 = .ok (.iaload, 1) := by decide +kernel
theorem dMa_runTerm_55 : decode cMa_runTerm 55 = .ok (.tableswitch 116 1 6 #[37, 48, 61, 73, 85, 97], 37) := by decide +kernel
theorem dMa_runTerm_92 : decode cMa_runTerm 92 = .ok (.iconst 0, 1) := by decide +kernel
theorem dMa_runTerm_93 : decode cMa_runTerm 93 = .ok (.aload_n 1, 1) := by decide +kernel
theorem dMa_runTerm_94 : decode cMa_runTerm 94 = .ok (.getfield 52, 3) := by decide +kernel
theorem dMa_runTerm_97 : decode cMa_runTerm 97 = .ok (.iload_n 3, 1) := by decide +kernel
theorem dMa_runTerm_98 : decode cMa_runTerm 98 = .ok (.iaload, 1) := by decide +kernel
theorem dMa_runTerm_99 : decode cMa_runTerm 99 = .ok (.invokestatic 43, 3) := by decide +kernel
theorem dMa_runTerm_102 : decode cMa_runTerm 102 = .ok (.lreturn, 1) := by decide +kernel
theorem dMa_runTerm_103 : decode cMa_runTerm 103 = .ok (.aload_n 0, 1) := by decide +kernel
theorem dMa_runTerm_104 : decode cMa_runTerm 104 = .ok (.aload_n 1, 1) := by decide +kernel
theorem dMa_runTerm_105 : decode cMa_runTerm 105 = .ok (.getfield 52, 3) := by decide +kernel
theorem dMa_runTerm_108 : decode cMa_runTerm 108 = .ok (.iload_n 3, 1) := by decide +kernel
theorem dMa_runTerm_109 : decode cMa_runTerm 109 = .ok (.iaload, 1) := by decide +kernel
theorem dMa_runTerm_110 : decode cMa_runTerm 110 = .ok (.iload 4, 2) := by decide +kernel
theorem dMa_runTerm_112 : decode cMa_runTerm 112 = .ok (.invokevirtual 55, 3) := by decide +kernel
theorem dMa_runTerm_115 : decode cMa_runTerm 115 = .ok (.lreturn, 1) := by decide +kernel
theorem dMa_runTerm_116 : decode cMa_runTerm 116 = .ok (.aload_n 0, 1) := by decide +kernel
theorem dMa_runTerm_117 : decode cMa_runTerm 117 = .ok (.aload_n 1, 1) := by decide +kernel
theorem dMa_runTerm_118 : decode cMa_runTerm 118 = .ok (.aload_n 2, 1) := by decide +kernel
theorem dMa_runTerm_119 : decode cMa_runTerm 119 = .ok (.iload_n 3, 1) := by decide +kernel
theorem dMa_runTerm_120 : decode cMa_runTerm 120 = .ok (.iload 4, 2) := by decide +kernel
theorem dMa_runTerm_122 : decode cMa_runTerm 122 = .ok (.iload 5, 2) := by decide +kernel
theorem dMa_runTerm_124 : decode cMa_runTerm 124 = .ok (.invokevirtual 58, 3) := by decide +kernel
theorem dMa_runTerm_127 : decode cMa_runTerm 127 = .ok (.lreturn, 1) := by decide +kernel
theorem dMa_runTerm_128 : decode cMa_runTerm 128 = .ok (.aload_n 0, 1) := by decide +kernel
theorem dMa_runTerm_129 : decode cMa_runTerm 129 = .ok (.aload_n 1, 1) := by decide +kernel
theorem dMa_runTerm_130 : decode cMa_runTerm 130 = .ok (.aload_n 2, 1) := by decide +kernel
theorem dMa_runTerm_131 : decode cMa_runTerm 131 = .ok (.iload_n 3, 1) := by decide +kernel
theorem dMa_runTerm_132 : decode cMa_runTerm 132 = .ok (.iload 4, 2) := by decide +kernel
theorem dMa_runTerm_134 : decode cMa_runTerm 134 = .ok (.iload 5, 2) := by decide +kernel
theorem dMa_runTerm_136 : decode cMa_runTerm 136 = .ok (.invokevirtual 61, 3) := by decide +kernel
theorem dMa_runTerm_139 : decode cMa_runTerm 139 = .ok (.lreturn, 1) := by decide +kernel
theorem dMa_runTerm_140 : decode cMa_runTerm 140 = .ok (.iconst 1, 1) := by decide +kernel
theorem dMa_runTerm_141 : decode cMa_runTerm 141 = .ok (.iload 4, 2) := by decide +kernel
theorem dMa_runTerm_143 : decode cMa_runTerm 143 = .ok (.bipush 40, 2) := by decide +kernel
theorem dMa_runTerm_145 : decode cMa_runTerm 145 = .ok (.imul, 1) := by decide +kernel
theorem dMa_runTerm_146 : decode cMa_runTerm 146 = .ok (.iload_n 3, 1) := by decide +kernel
theorem dMa_runTerm_147 : decode cMa_runTerm 147 = .ok (.iadd, 1) := by decide +kernel
theorem dMa_runTerm_148 : decode cMa_runTerm 148 = .ok (.invokestatic 43, 3) := by decide +kernel
theorem dMa_runTerm_151 : decode cMa_runTerm 151 = .ok (.lreturn, 1) := by decide +kernel
theorem dMa_runTerm_152 : decode cMa_runTerm 152 = .ok (.aload_n 0, 1) := by decide +kernel
theorem dMa_runTerm_153 : decode cMa_runTerm 153 = .ok (.aload_n 1, 1) := by decide +kernel
theorem dMa_runTerm_154 : decode cMa_runTerm 154 = .ok (.aload_n 2, 1) := by decide +kernel
theorem dMa_runTerm_155 : decode cMa_runTerm 155 = .ok (.aload_n 1, 1) := by decide +kernel
theorem dMa_runTerm_156 : decode cMa_runTerm 156 = .ok (.iload_n 3, 1) := by decide +kernel
theorem dMa_runTerm_157 : decode cMa_runTerm 157 = .ok (.iconst 0, 1) := by decide +kernel
theorem dMa_runTerm_158 : decode cMa_runTerm 158 = .ok (.invokevirtual 64, 3) := by decide +kernel
theorem dMa_runTerm_161 : decode cMa_runTerm 161 = .ok (.iload 4, 2) := by decide +kernel
theorem dMa_runTerm_163 : decode cMa_runTerm 163 = .ok (.iload 5, 2) := by decide +kernel
theorem dMa_runTerm_165 : decode cMa_runTerm 165 = .ok (.iconst 1, 1) := by decide +kernel
theorem dMa_runTerm_166 : decode cMa_runTerm 166 = .ok (.iadd, 1) := by decide +kernel
theorem dMa_runTerm_167 : decode cMa_runTerm 167 = .ok (.invokevirtual 32, 3) := by decide +kernel
theorem dMa_runTerm_170 : decode cMa_runTerm 170 = .ok (.lreturn, 1) := by decide +kernel
theorem dMa_runTerm_171 : decode cMa_runTerm 171 = .ok (.iconst 2, 1) := by decide +kernel
theorem dMa_runTerm_172 : decode cMa_runTerm 172 = .ok (.iconst 0, 1) := by decide +kernel
theorem dMa_runTerm_173 : decode cMa_runTerm 173 = .ok (.invokestatic 43, 3) := by decide +kernel
theorem dMa_runTerm_176 : decode cMa_runTerm 176 = .ok (.lreturn, 1) := by decide +kernel
def f_Ma_runTerm_J21 (rc : Nat → Int32 → Int32 → Int32 → Mem → Option (Int64 × Mem)) (i : Nat) (v3 : Int32) (v4 : Int32) (v5 : Int32) (σ : Mem) : Option (Int64 × Mem) :=
  bn (f_Ma_value (3 : Int32) (0 : Int32) σ) fun (r3 : Int64) (σ2 : Mem) =>
  some (r3, σ2)
def f_Ma_runTerm (rc : Nat → Int32 → Int32 → Int32 → Mem → Option (Int64 × Mem)) (i : Nat) (v3 : Int32) (v4 : Int32) (v5 : Int32) (σ : Mem) : Option (Int64 × Mem) :=
  if v3 < 0 then (
  f_Ma_runTerm_J21 rc i v3 v4 v5 σ)
  else (
  if (400 : Int32) ≤ (σ.1 11 4) then (
  f_Ma_runTerm_J21 rc i v3 v4 v5 σ)
  else (
  if v5 < (60 : Int32) then (
  lt_ (sI σ 11 4 ((σ.1 11 4) + (1 : Int32))) fun (σ4 : Mem) =>
  gd (inb v3 40) (
  if (σ4.1 6 v3.toNatClampNeg) = 0 then (
  gd (inb v3 40) (
  if (σ4.1 (cPk i) v3.toNatClampNeg) = (1 : Int32) then (
  gd (inb v3 40) (
  bn (f_Ma_value (0 : Int32) (σ4.1 (cPf i) v3.toNatClampNeg) σ4) fun (r10 : Int64) (σ9 : Mem) =>
  some (r10, σ9)))
  else (
  if (σ4.1 (cPk i) v3.toNatClampNeg) = (2 : Int32) then (
  gd (inb v3 40) (
  bn (f_Ma_standsFor (σ4.1 (cPf i) v3.toNatClampNeg) v4 σ4) fun (r14 : Int64) (σ13 : Mem) =>
  some (r14, σ13)))
  else (
  if (σ4.1 (cPk i) v3.toNatClampNeg) = (3 : Int32) then (
  bn (f_Ma_runSum rc i v3 v4 v5 σ4) fun (r17 : Int64) (σ16 : Mem) =>
  some (r17, σ16))
  else (
  if (σ4.1 (cPk i) v3.toNatClampNeg) = (4 : Int32) then (
  bn (f_Ma_runCall rc i v3 v4 v5 σ4) fun (r20 : Int64) (σ19 : Mem) =>
  some (r20, σ19))
  else (
  if (σ4.1 (cPk i) v3.toNatClampNeg) = (5 : Int32) then (
  bn (f_Ma_value (1 : Int32) ((v4 * (40 : Int32)) + v3) σ4) fun (r23 : Int64) (σ22 : Mem) =>
  some (r23, σ22))
  else (
  if (σ4.1 (cPk i) v3.toNatClampNeg) = (6 : Int32) then (
  bn (f_Pr_part i v3 (0 : Int32) σ4) fun (r26 : Int32) (σ25 : Mem) =>
  bn (rc i r26 v4 (v5 + (1 : Int32)) σ25) fun (r29 : Int64) (σ28 : Mem) =>
  some (r29, σ28))
  else (
  bn (f_Ma_value (2 : Int32) (0 : Int32) σ4) fun (r32 : Int64) (σ31 : Mem) =>
  some (r32, σ31)))))))))
  else (
  bn (f_Ma_value (2 : Int32) (0 : Int32) σ4) fun (r35 : Int64) (σ34 : Mem) =>
  some (r35, σ34))))
  else (
  f_Ma_runTerm_J21 rc i v3 v4 v5 σ)))
set_option maxHeartbeats 4000000 in
set_option maxRecDepth 100000 in
theorem c_Ma_runTerm (l : Launch) (g : Gw) (hg : wInj g) {rc : Nat → Int32 → Int32 → Int32 → Mem → Option (Int64 × Mem)} {d0 : Nat} (hd0 : 2 ≤ d0) (hrc : ∀ {i : Nat} (hi : i < 17) {v3 : Int32} {v4 : Int32} {v5 : Int32} {r0 : Int64} {σ σ0 : Mem}, rc i v3 v4 v5 σ = some (r0, σ0) → KL l yMa_runTerm cMa_runTerm 6 (some .long) d0 g [.ref (ad g 11), .ref (ad g (cP i)), .ref (ad g 6), .int v3, .int v4, .int v5] σ r0 σ0) {i : Nat} (hi : i < 17) {v3 : Int32} {v4 : Int32} {v5 : Int32} {r0 : Int64} {σ σ0 : Mem} (h : f_Ma_runTerm rc i v3 v4 v5 σ = some (r0, σ0)) : KL l yMa_runTerm cMa_runTerm 6 (some .long) (d0 + 2) g [.ref (ad g 11), .ref (ad g (cP i)), .ref (ad g 6), .int v3, .int v4, .int v5] σ r0 σ0 := by
  refine q_met g hg (own := "TermBench$Machine") rfl rfl (Nat.le_of_ble_eq_true rfl) (fun p e s m args below meth c R Q cx hRk hr hQ H locs ls hP hS hl => ?_)
  have hx := cx.1
  have hb := cx.2.1
  have hown := cx.2.2.2.1
  have hts := cx.2.2.2.2.1
  have hl : lv_has ls 6 [(0, .ref (ad g 11)), (1, .ref (ad g (cP i))), (2, .ref (ad g 6)), (3, .int v3), (4, .int v4), (5, .int v5)] := hl
  have J21 : ∀ (v3 : Int32) (v4 : Int32) (v5 : Int32) (σ : Mem), f_Ma_runTerm_J21 rc i v3 v4 v5 σ = some (r0, σ0) → ∀ (H : Heap) (locs : List Loc) (ls : Array Slot), lv_has ls 6 [(0, .ref (ad g 11)), (1, .ref (ad g (cP i))), (2, .ref (ad g 6)), (3, .int v3), (4, .int v4), (5, .int v5)] → Wd g σ H → va_S (wA g) s.heap H locs → W p l e R s m args below meth c H locs 0 0 Q (F0 m 21 ls []) := by
    intro v3 v4 v5 σ h H locs ls hl hP hS
    unfold f_Ma_runTerm_J21 at h
    refine lv_iconst (v := 3) hx hb dMa_runTerm_21 (by decide) ?_
    refine lv_iconst (v := 0) hx hb dMa_runTerm_22 (by decide) ?_
    obtain ⟨r3, σ2, h1, h⟩ := bn_some h
    refine q_cSl (rest := []) (As := [.int (3 : Int32), .int (0 : Int32)]) cx hP hS hRk (c_Ma_value l g hg h1) Y_Ma_value S_Ma_value t_490 (by omega) rfl hl.1 rfl (Nat.le_of_ble_eq_true rfl) dMa_runTerm_23 (fun H locs hP hS => ?_)
    exact q_rl cx hr hP hS hQ h dMa_runTerm_26
  unfold f_Ma_runTerm at h
  refine lv_iload_n hx hb dMa_runTerm_0 rfl (lv_at hl 3 rfl) ?_
  refine lv_if_lt (tgt := 21) hx hb dMa_runTerm_1 (by decide) (fun hc => ?_) (fun hc => ?_)
  · replace h := if_t h hc
    exact J21 _ _ _ _ h _ _ _ (lv_sub hl [0, 1, 2, 3, 4, 5] rfl) hP hS
  · replace h := if_f h hc
    refine lv_aload_n hx hb dMa_runTerm_4 rfl (lv_at hl 0 rfl) ?_
    refine g_Ma_units cx hP  t_140 dMa_runTerm_5 ?_
    refine lv_sipush (v := 400) hx hb dMa_runTerm_8 (by decide) ?_
    refine lv_icmp_ge (tgt := 21) hx hb dMa_runTerm_11 (by decide) (fun hc => ?_) (fun hc => ?_)
    · replace h := if_t h hc
      exact J21 _ _ _ _ h _ _ _ (lv_sub hl [0, 1, 2, 3, 4, 5] rfl) hP hS
    · replace h := if_f h hc
      refine lv_iload hx hb dMa_runTerm_14 (lv_at hl 5 rfl) ?_
      refine lv_bipush (v := 60) hx hb dMa_runTerm_16 (by decide) ?_
      refine lv_icmp_lt (tgt := 27) hx hb dMa_runTerm_18 (by decide) (fun hc => ?_) (fun hc => ?_)
      · replace h := if_t h hc
        refine lv_aload_n hx hb dMa_runTerm_27 rfl (lv_at hl 0 rfl) ?_
        refine lv_dup hx hb dMa_runTerm_28 rfl ?_
        refine g_Ma_units cx hP  t_140 dMa_runTerm_29 ?_
        refine lv_iconst (v := 1) hx hb dMa_runTerm_32 (by decide) ?_
        refine lv_iadd hx hb dMa_runTerm_33 ?_
        obtain ⟨σ4, eσ4, h⟩ := lt_some h
        refine p_Ma_units cx hP hS t_140 dMa_runTerm_34 eσ4 (fun H locs hP hS => ?_)
        refine lv_aload_n hx hb dMa_runTerm_37 rfl (lv_at hl 2 rfl) ?_
        refine lv_iload_n hx hb dMa_runTerm_38 rfl (lv_at hl 3 rfl) ?_
        obtain ⟨b5, h⟩ := gd_some h
        refine q_iald cx hP (by decide) (e_6 g) b5 dMa_runTerm_39 ?_
        refine lv_if_eq (tgt := 49) hx hb dMa_runTerm_40 (by decide) (fun hc => ?_) (fun hc => ?_)
        · replace h := if_t h hc
          refine lv_aload_n hx hb dMa_runTerm_49 rfl (lv_at hl 1 rfl) ?_
          refine g_Pr_kinds cx hP hi  t_36 dMa_runTerm_50 ?_
          refine lv_iload_n hx hb dMa_runTerm_53 rfl (lv_at hl 3 rfl) ?_
          obtain ⟨b6, h⟩ := gd_some h
          refine q_iald cx hP (l_cPk hi) (e_cPk g hi) b6 dMa_runTerm_54 ?_
          rcases Decidable.em (σ4.1 (cPk i) v3.toNatClampNeg = (1 : Int32)) with hc1 | hc1
          · replace h := if_t h hc1
            refine lv_tableIn (tgt := 92) hx hb dMa_runTerm_55 (by rw [hc1]; decide) (by rw [hc1]; decide) (by rw [hc1]; rfl) (by decide) ?_
            refine lv_iconst (v := 0) hx hb dMa_runTerm_92 (by decide) ?_
            refine lv_aload_n hx hb dMa_runTerm_93 rfl (lv_at hl 1 rfl) ?_
            refine g_Pr_figures cx hP hi  t_40 dMa_runTerm_94 ?_
            refine lv_iload_n hx hb dMa_runTerm_97 rfl (lv_at hl 3 rfl) ?_
            obtain ⟨b7, h⟩ := gd_some h
            refine q_iald cx hP (l_cPf hi) (e_cPf g hi) b7 dMa_runTerm_98 ?_
            obtain ⟨r10, σ9, h8, h⟩ := bn_some h
            refine q_cSl (rest := []) (As := [.int (0 : Int32), .int (σ4.1 (cPf i) v3.toNatClampNeg)]) cx hP hS hRk (c_Ma_value l g hg h8) Y_Ma_value S_Ma_value t_490 (by omega) rfl hl.1 rfl (Nat.le_of_ble_eq_true rfl) dMa_runTerm_99 (fun H locs hP hS => ?_)
            exact q_rl cx hr hP hS hQ h dMa_runTerm_102
          · replace h := if_f h hc1
            rcases Decidable.em (σ4.1 (cPk i) v3.toNatClampNeg = (2 : Int32)) with hc2 | hc2
            · replace h := if_t h hc2
              refine lv_tableIn (tgt := 103) hx hb dMa_runTerm_55 (by rw [hc2]; decide) (by rw [hc2]; decide) (by rw [hc2]; rfl) (by decide) ?_
              refine lv_aload_n hx hb dMa_runTerm_103 rfl (lv_at hl 0 rfl) ?_
              refine lv_aload_n hx hb dMa_runTerm_104 rfl (lv_at hl 1 rfl) ?_
              refine g_Pr_figures cx hP hi  t_40 dMa_runTerm_105 ?_
              refine lv_iload_n hx hb dMa_runTerm_108 rfl (lv_at hl 3 rfl) ?_
              obtain ⟨b11, h⟩ := gd_some h
              refine q_iald cx hP (l_cPf hi) (e_cPf g hi) b11 dMa_runTerm_109 ?_
              refine lv_iload hx hb dMa_runTerm_110 (lv_at hl 4 rfl) ?_
              obtain ⟨r14, σ13, h12, h⟩ := bn_some h
              refine q_cVl (rest := []) (As := [.int (σ4.1 (cPf i) v3.toNatClampNeg), .int v4]) cx hP hS hRk (c_Ma_standsFor l g hg h12) Y_Ma_standsFor V_Ma_standsFor t_493 (by omega) (by decide) (e_11 g _ _) rfl rfl hl.1 rfl (Nat.le_of_ble_eq_true rfl) dMa_runTerm_112 (fun H locs hP hS => ?_)
              exact q_rl cx hr hP hS hQ h dMa_runTerm_115
            · replace h := if_f h hc2
              rcases Decidable.em (σ4.1 (cPk i) v3.toNatClampNeg = (3 : Int32)) with hc3 | hc3
              · replace h := if_t h hc3
                refine lv_tableIn (tgt := 116) hx hb dMa_runTerm_55 (by rw [hc3]; decide) (by rw [hc3]; decide) (by rw [hc3]; rfl) (by decide) ?_
                refine lv_aload_n hx hb dMa_runTerm_116 rfl (lv_at hl 0 rfl) ?_
                refine lv_aload_n hx hb dMa_runTerm_117 rfl (lv_at hl 1 rfl) ?_
                refine lv_aload_n hx hb dMa_runTerm_118 rfl (lv_at hl 2 rfl) ?_
                refine lv_iload_n hx hb dMa_runTerm_119 rfl (lv_at hl 3 rfl) ?_
                refine lv_iload hx hb dMa_runTerm_120 (lv_at hl 4 rfl) ?_
                refine lv_iload hx hb dMa_runTerm_122 (lv_at hl 5 rfl) ?_
                obtain ⟨r17, σ16, h15, h⟩ := bn_some h
                refine q_cVl (rest := []) (As := [.ref (ad g (cP i)), .ref (ad g 6), .int v3, .int v4, .int v5]) cx hP hS hRk (c_Ma_runSum l g hg hd0 hrc hi h15) Y_Ma_runSum V_Ma_runSum t_497 (by omega) (by decide) (e_11 g _ _) rfl rfl hl.1 rfl (Nat.le_of_ble_eq_true rfl) dMa_runTerm_124 (fun H locs hP hS => ?_)
                exact q_rl cx hr hP hS hQ h dMa_runTerm_127
              · replace h := if_f h hc3
                rcases Decidable.em (σ4.1 (cPk i) v3.toNatClampNeg = (4 : Int32)) with hc4 | hc4
                · replace h := if_t h hc4
                  refine lv_tableIn (tgt := 128) hx hb dMa_runTerm_55 (by rw [hc4]; decide) (by rw [hc4]; decide) (by rw [hc4]; rfl) (by decide) ?_
                  refine lv_aload_n hx hb dMa_runTerm_128 rfl (lv_at hl 0 rfl) ?_
                  refine lv_aload_n hx hb dMa_runTerm_129 rfl (lv_at hl 1 rfl) ?_
                  refine lv_aload_n hx hb dMa_runTerm_130 rfl (lv_at hl 2 rfl) ?_
                  refine lv_iload_n hx hb dMa_runTerm_131 rfl (lv_at hl 3 rfl) ?_
                  refine lv_iload hx hb dMa_runTerm_132 (lv_at hl 4 rfl) ?_
                  refine lv_iload hx hb dMa_runTerm_134 (lv_at hl 5 rfl) ?_
                  obtain ⟨r20, σ19, h18, h⟩ := bn_some h
                  refine q_cVl (rest := []) (As := [.ref (ad g (cP i)), .ref (ad g 6), .int v3, .int v4, .int v5]) cx hP hS hRk (c_Ma_runCall l g hg hd0 hrc hi h18) Y_Ma_runCall V_Ma_runCall t_508 (by omega) (by decide) (e_11 g _ _) rfl rfl hl.1 rfl (Nat.le_of_ble_eq_true rfl) dMa_runTerm_136 (fun H locs hP hS => ?_)
                  exact q_rl cx hr hP hS hQ h dMa_runTerm_139
                · replace h := if_f h hc4
                  rcases Decidable.em (σ4.1 (cPk i) v3.toNatClampNeg = (5 : Int32)) with hc5 | hc5
                  · replace h := if_t h hc5
                    refine lv_tableIn (tgt := 140) hx hb dMa_runTerm_55 (by rw [hc5]; decide) (by rw [hc5]; decide) (by rw [hc5]; rfl) (by decide) ?_
                    refine lv_iconst (v := 1) hx hb dMa_runTerm_140 (by decide) ?_
                    refine lv_iload hx hb dMa_runTerm_141 (lv_at hl 4 rfl) ?_
                    refine lv_bipush (v := 40) hx hb dMa_runTerm_143 (by decide) ?_
                    refine lv_imul hx hb dMa_runTerm_145 ?_
                    refine lv_iload_n hx hb dMa_runTerm_146 rfl (lv_at hl 3 rfl) ?_
                    refine lv_iadd hx hb dMa_runTerm_147 ?_
                    obtain ⟨r23, σ22, h21, h⟩ := bn_some h
                    refine q_cSl (rest := []) (As := [.int (1 : Int32), .int ((v4 * (40 : Int32)) + v3)]) cx hP hS hRk (c_Ma_value l g hg h21) Y_Ma_value S_Ma_value t_490 (by omega) rfl hl.1 rfl (Nat.le_of_ble_eq_true rfl) dMa_runTerm_148 (fun H locs hP hS => ?_)
                    exact q_rl cx hr hP hS hQ h dMa_runTerm_151
                  · replace h := if_f h hc5
                    rcases Decidable.em (σ4.1 (cPk i) v3.toNatClampNeg = (6 : Int32)) with hc6 | hc6
                    · replace h := if_t h hc6
                      refine lv_tableIn (tgt := 152) hx hb dMa_runTerm_55 (by rw [hc6]; decide) (by rw [hc6]; decide) (by rw [hc6]; rfl) (by decide) ?_
                      refine lv_aload_n hx hb dMa_runTerm_152 rfl (lv_at hl 0 rfl) ?_
                      refine lv_aload_n hx hb dMa_runTerm_153 rfl (lv_at hl 1 rfl) ?_
                      refine lv_aload_n hx hb dMa_runTerm_154 rfl (lv_at hl 2 rfl) ?_
                      refine lv_aload_n hx hb dMa_runTerm_155 rfl (lv_at hl 1 rfl) ?_
                      refine lv_iload_n hx hb dMa_runTerm_156 rfl (lv_at hl 3 rfl) ?_
                      refine lv_iconst (v := 0) hx hb dMa_runTerm_157 (by decide) ?_
                      obtain ⟨r26, σ25, h24, h⟩ := bn_some h
                      refine q_cVi (rest := [.ref (ad g 6), .ref (ad g (cP i)), .ref (ad g 11)]) (As := [.int v3, .int (0 : Int32)]) cx hP hS hRk (c_Pr_part l g hg hi h24) Y_Pr_part V_Pr_part t_501 (by omega) (l_cP hi) (e_cP g hi _ _) rfl rfl hl.1 rfl (Nat.le_of_ble_eq_true rfl) dMa_runTerm_158 (fun H locs hP hS => ?_)
                      refine lv_iload hx hb dMa_runTerm_161 (lv_at hl 4 rfl) ?_
                      refine lv_iload hx hb dMa_runTerm_163 (lv_at hl 5 rfl) ?_
                      refine lv_iconst (v := 1) hx hb dMa_runTerm_165 (by decide) ?_
                      refine lv_iadd hx hb dMa_runTerm_166 ?_
                      obtain ⟨r29, σ28, h27, h⟩ := bn_some h
                      refine q_cVl (rest := []) (As := [.ref (ad g (cP i)), .ref (ad g 6), .int r26, .int v4, .int (v5 + (1 : Int32))]) cx hP hS hRk (hrc hi h27) Y_Ma_runTerm V_Ma_runTerm t_486 (by omega) (by decide) (e_11 g _ _) rfl rfl hl.1 rfl (Nat.le_of_ble_eq_true rfl) dMa_runTerm_167 (fun H locs hP hS => ?_)
                      exact q_rl cx hr hP hS hQ h dMa_runTerm_170
                    · replace h := if_f h hc6
                      have hsw : (σ4.1 (cPk i) v3.toNatClampNeg).toInt < 1 ∨ 6 < (σ4.1 (cPk i) v3.toNatClampNeg).toInt := by
                        have n1 := lv_neT (k := 1) (a := 1) hc1 rfl
                        have n2 := lv_neT (k := 2) (a := 2) hc2 rfl
                        have n3 := lv_neT (k := 3) (a := 3) hc3 rfl
                        have n4 := lv_neT (k := 4) (a := 4) hc4 rfl
                        have n5 := lv_neT (k := 5) (a := 5) hc5 rfl
                        have n6 := lv_neT (k := 6) (a := 6) hc6 rfl
                        omega
                      refine lv_tableOut (tgt := 171) hx hb dMa_runTerm_55 hsw (by decide) ?_
                      refine lv_iconst (v := 2) hx hb dMa_runTerm_171 (by decide) ?_
                      refine lv_iconst (v := 0) hx hb dMa_runTerm_172 (by decide) ?_
                      obtain ⟨r32, σ31, h30, h⟩ := bn_some h
                      refine q_cSl (rest := []) (As := [.int (2 : Int32), .int (0 : Int32)]) cx hP hS hRk (c_Ma_value l g hg h30) Y_Ma_value S_Ma_value t_490 (by omega) rfl hl.1 rfl (Nat.le_of_ble_eq_true rfl) dMa_runTerm_173 (fun H locs hP hS => ?_)
                      exact q_rl cx hr hP hS hQ h dMa_runTerm_176
        · replace h := if_f h hc
          refine lv_iconst (v := 2) hx hb dMa_runTerm_43 (by decide) ?_
          refine lv_iconst (v := 0) hx hb dMa_runTerm_44 (by decide) ?_
          obtain ⟨r35, σ34, h33, h⟩ := bn_some h
          refine q_cSl (rest := []) (As := [.int (2 : Int32), .int (0 : Int32)]) cx hP hS hRk (c_Ma_value l g hg h33) Y_Ma_value S_Ma_value t_490 (by omega) rfl hl.1 rfl (Nat.le_of_ble_eq_true rfl) dMa_runTerm_45 (fun H locs hP hS => ?_)
          exact q_rl cx hr hP hS hQ h dMa_runTerm_48
      · replace h := if_f h hc
        exact J21 _ _ _ _ h _ _ _ (lv_sub hl [0, 1, 2, 3, 4, 5] rfl) hP hS
def F_Ma_runTerm : Nat → Nat → Int32 → Int32 → Int32 → Mem → Option (Int64 × Mem)
  | 0 => fun _ _ _ _ _ => none
  | n + 1 => fun a0 a1 a2 a3 a4 => f_Ma_runTerm (F_Ma_runTerm n) a0 a1 a2 a3 a4
theorem C_Ma_runTerm (l : Launch) (g : Gw) (hg : wInj g) : ∀ (n : Nat) {i : Nat} (hi : i < 17) {v3 : Int32} {v4 : Int32} {v5 : Int32} {r0 : Int64} {σ σ0 : Mem}, F_Ma_runTerm n i v3 v4 v5 σ = some (r0, σ0) → KL l yMa_runTerm cMa_runTerm 6 (some .long) (2 + 2 * n) g [.ref (ad g 11), .ref (ad g (cP i)), .ref (ad g 6), .int v3, .int v4, .int v5] σ r0 σ0 := by
  intro n
  induction n with
  | zero => intros; rename_i h; simp [F_Ma_runTerm] at h
  | succ n ih =>
    intros
    rename_i h
    exact c_Ma_runTerm l g hg (d0 := 2 + 2 * n) (Nat.le_add_right _ _) ih (by assumption) h
theorem dMa_start_0 : decode cMa_start 0 = .ok (.aload_n 0, 1) := by decide +kernel
theorem dMa_start_1 : decode cMa_start 1 = .ok (.iconst 0, 1) := by decide +kernel
theorem dMa_start_2 : decode cMa_start 2 = .ok (.putfield 22, 3) := by decide +kernel
theorem dMa_start_5 : decode cMa_start 5 = .ok (.aload_n 0, 1) := by decide +kernel
theorem dMa_start_6 : decode cMa_start 6 = .ok (.iconst 0, 1) := by decide +kernel
theorem dMa_start_7 : decode cMa_start 7 = .ok (.putfield 26, 3) := by decide +kernel
theorem dMa_start_10 : decode cMa_start 10 = .ok (.aload_n 0, 1) := by decide +kernel
theorem dMa_start_11 : decode cMa_start 11 = .ok (.aload_n 1, 1) := by decide +kernel
theorem dMa_start_12 : decode cMa_start 12 = .ok (.aload_n 2, 1) := by decide +kernel
theorem dMa_start_13 : decode cMa_start 13 = .ok (.iconst 0, 1) := by decide +kernel
theorem dMa_start_14 : decode cMa_start 14 = .ok (.iconst 0, 1) := by decide +kernel
theorem dMa_start_15 : decode cMa_start 15 = .ok (.iconst 0, 1) := by decide +kernel
theorem dMa_start_16 : decode cMa_start 16 = .ok (.invokevirtual 32, 3) := by decide +kernel
theorem dMa_start_19 : decode cMa_start 19 = .ok (.lstore_n 3, 1) := by decide +kernel
theorem dMa_start_20 : decode cMa_start 20 = .ok (.aload_n 0, 1) := by decide +kernel
theorem dMa_start_21 : decode cMa_start 21 = .ok (.lload_n 3, 1) := by decide +kernel
theorem dMa_start_22 : decode cMa_start 22 = .ok (.invokestatic 36, 3) := by decide +kernel
theorem dMa_start_25 : decode cMa_start 25 = .ok (.ifCond .ne 10, 3) := by decide +kernel
theorem dMa_start_28 : decode cMa_start 28 = .ok (.lload_n 3, 1) := by decide +kernel
theorem dMa_start_29 : decode cMa_start 29 = .ok (.invokestatic 40, 3) := by decide +kernel
theorem dMa_start_32 : decode cMa_start 32 = .ok (.goto 4, 3) := by decide +kernel
theorem dMa_start_35 : decode cMa_start 35 = .ok (.iconst 0, 1) := by decide +kernel
theorem dMa_start_36 : decode cMa_start 36 = .ok (.putfield 29, 3) := by decide +kernel
theorem dMa_start_39 : decode cMa_start 39 = .ok (.lload_n 3, 1) := by decide +kernel
theorem dMa_start_40 : decode cMa_start 40 = .ok (.invokestatic 36, 3) := by decide +kernel
theorem dMa_start_43 : decode cMa_start 43 = .ok (.ireturn, 1) := by decide +kernel
def f_Ma_start_J36 (i : Nat) (v3 : Int64) (u1 : Int32) (σ : Mem) : Option (Int32 × Mem) :=
  lt_ (sI σ 11 5 u1) fun (σ1 : Mem) =>
  bn (f_Ma_outcome v3 σ1) fun (r4 : Int32) (σ3 : Mem) =>
  some (r4, σ3)
def f_Ma_start (i : Nat)  (σ : Mem) : Option (Int32 × Mem) :=
  lt_ (sI σ 11 3 (0 : Int32)) fun (σ5 : Mem) =>
  lt_ (sI σ5 11 4 (0 : Int32)) fun (σ6 : Mem) =>
  bn (F_Ma_runTerm 61 i (0 : Int32) (0 : Int32) (0 : Int32) σ6) fun (r9 : Int64) (σ8 : Mem) =>
  bn (f_Ma_outcome r9 σ8) fun (r12 : Int32) (σ11 : Mem) =>
  if r12 = 0 then (
  bn (f_Ma_content r9 σ11) fun (r15 : Int32) (σ14 : Mem) =>
  f_Ma_start_J36 i r9 r15 σ14)
  else (
  f_Ma_start_J36 i r9 (0 : Int32) σ11)
set_option maxHeartbeats 4000000 in
set_option maxRecDepth 100000 in
theorem c_Ma_start (l : Launch) (g : Gw) (hg : wInj g) {i : Nat} (hi : i < 17) {r0 : Int32} {σ σ0 : Mem} (h : f_Ma_start i σ = some (r0, σ0)) : KI l yMa_start cMa_start 5 (some .int) 125 g [.ref (ad g 11), .ref (ad g (cP i)), .ref (ad g 6)] σ r0 σ0 := by
  refine q_met g hg (own := "TermBench$Machine") rfl rfl (Nat.le_of_ble_eq_true rfl) (fun p e s m args below meth c R Q cx hRk hr hQ H locs ls hP hS hl => ?_)
  have hx := cx.1
  have hb := cx.2.1
  have hown := cx.2.2.2.1
  have hts := cx.2.2.2.2.1
  have hl : lv_has ls 5 [(0, .ref (ad g 11)), (1, .ref (ad g (cP i))), (2, .ref (ad g 6))] := hl
  have J36 : ∀ (v3 : Int64) (u1 : Int32) (σ : Mem), f_Ma_start_J36 i v3 u1 σ = some (r0, σ0) → ∀ (H : Heap) (locs : List Loc) (ls : Array Slot), lv_has ls 5 [(0, .ref (ad g 11)), (1, .ref (ad g (cP i))), (2, .ref (ad g 6)), (3, .long v3)] → Wd g σ H → va_S (wA g) s.heap H locs → W p l e R s m args below meth c H locs 0 0 Q (F0 m 36 ls [.int u1, .ref (ad g 11)]) := by
    intro v3 u1 σ h H locs ls hl hP hS
    unfold f_Ma_start_J36 at h
    obtain ⟨σ1, eσ1, h⟩ := lt_some h
    refine p_Ma_number cx hP hS t_142 dMa_start_36 eσ1 (fun H locs hP hS => ?_)
    refine lv_lload_n hx hb dMa_start_39 rfl (lv_at hl 3 rfl) ?_
    obtain ⟨r4, σ3, h2, h⟩ := bn_some h
    refine q_cSi (rest := []) (As := [.long v3]) cx hP hS hRk (c_Ma_outcome l g hg h2) Y_Ma_outcome S_Ma_outcome t_502 (by decide) rfl hl.1 rfl (Nat.le_of_ble_eq_true rfl) dMa_start_40 (fun H locs hP hS => ?_)
    exact q_ri cx hr rfl hP hS hQ h dMa_start_43
  unfold f_Ma_start at h
  refine lv_aload_n hx hb dMa_start_0 rfl (lv_at hl 0 rfl) ?_
  refine lv_iconst (v := 0) hx hb dMa_start_1 (by decide) ?_
  obtain ⟨σ5, eσ5, h⟩ := lt_some h
  refine p_Ma_bound cx hP hS t_139 dMa_start_2 eσ5 (fun H locs hP hS => ?_)
  refine lv_aload_n hx hb dMa_start_5 rfl (lv_at hl 0 rfl) ?_
  refine lv_iconst (v := 0) hx hb dMa_start_6 (by decide) ?_
  obtain ⟨σ6, eσ6, h⟩ := lt_some h
  refine p_Ma_units cx hP hS t_140 dMa_start_7 eσ6 (fun H locs hP hS => ?_)
  refine lv_aload_n hx hb dMa_start_10 rfl (lv_at hl 0 rfl) ?_
  refine lv_aload_n hx hb dMa_start_11 rfl (lv_at hl 1 rfl) ?_
  refine lv_aload_n hx hb dMa_start_12 rfl (lv_at hl 2 rfl) ?_
  refine lv_iconst (v := 0) hx hb dMa_start_13 (by decide) ?_
  refine lv_iconst (v := 0) hx hb dMa_start_14 (by decide) ?_
  refine lv_iconst (v := 0) hx hb dMa_start_15 (by decide) ?_
  obtain ⟨r9, σ8, h7, h⟩ := bn_some h
  refine q_cVl (rest := []) (As := [.ref (ad g (cP i)), .ref (ad g 6), .int (0 : Int32), .int (0 : Int32), .int (0 : Int32)]) cx hP hS hRk (C_Ma_runTerm l g hg 61 hi h7) Y_Ma_runTerm V_Ma_runTerm t_486 (by decide) (by decide) (e_11 g _ _) rfl rfl hl.1 rfl (Nat.le_of_ble_eq_true rfl) dMa_start_16 (fun H locs hP hS => ?_)
  refine lv_lstore_n (lv' := [(3, .long r9), (0, .ref (ad g 11)), (1, .ref (ad g (cP i))), (2, .ref (ad g 6))]) hx hb dMa_start_19 rfl hl (Nat.le_of_ble_eq_true rfl) rfl (fun ls hl => ?_)
  refine lv_aload_n hx hb dMa_start_20 rfl (lv_at hl 1 rfl) ?_
  refine lv_lload_n hx hb dMa_start_21 rfl (lv_at hl 0 rfl) ?_
  obtain ⟨r12, σ11, h10, h⟩ := bn_some h
  refine q_cSi (rest := [.ref (ad g 11)]) (As := [.long r9]) cx hP hS hRk (c_Ma_outcome l g hg h10) Y_Ma_outcome S_Ma_outcome t_502 (by decide) rfl hl.1 rfl (Nat.le_of_ble_eq_true rfl) dMa_start_22 (fun H locs hP hS => ?_)
  refine lv_if_ne (tgt := 35) hx hb dMa_start_25 (by decide) (fun hc => ?_) (fun hc => ?_)
  · replace h := if_f h hc
    refine lv_iconst (v := 0) hx hb dMa_start_35 (by decide) ?_
    exact J36 _ _ _ h _ _ _ (lv_sub hl [1, 2, 3, 0] rfl) hP hS
  · replace h := if_t h hc
    refine lv_lload_n hx hb dMa_start_28 rfl (lv_at hl 0 rfl) ?_
    obtain ⟨r15, σ14, h13, h⟩ := bn_some h
    refine q_cSi (rest := [.ref (ad g 11)]) (As := [.long r9]) cx hP hS hRk (c_Ma_content l g hg h13) Y_Ma_content S_Ma_content t_505 (by decide) rfl hl.1 rfl (Nat.le_of_ble_eq_true rfl) dMa_start_29 (fun H locs hP hS => ?_)
    refine lv_goto (tgt := 36) hx hb dMa_start_32 (by decide) ?_
    exact J36 _ _ _ h _ _ _ (lv_sub hl [1, 2, 3, 0] rfl) hP hS
