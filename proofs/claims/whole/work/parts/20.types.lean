/-! 20.types, by program: pure functions and contracts -/
theorem dTy_symbols_0 : decode cTy_symbols 0 = .ok (.iconst 1, 1) := by decide +kernel
theorem dTy_symbols_1 : decode cTy_symbols 1 = .ok (.istore_n 2, 1) := by decide +kernel
theorem dTy_symbols_2 : decode cTy_symbols 2 = .ok (.iconst 0, 1) := by decide +kernel
theorem dTy_symbols_3 : decode cTy_symbols 3 = .ok (.istore_n 3, 1) := by decide +kernel
theorem dTy_symbols_4 : decode cTy_symbols 4 = .ok (.iload_n 2, 1) := by decide +kernel
theorem dTy_symbols_5 : decode cTy_symbols 5 = .ok (.ifCond .le 46, 3) := by decide +kernel
theorem dTy_symbols_8 : decode cTy_symbols 8 = .ok (.iload_n 3, 1) := by decide +kernel
theorem dTy_symbols_9 : decode cTy_symbols 9 = .ok (.bipush 27, 2) := by decide +kernel
theorem dTy_symbols_11 : decode cTy_symbols 11 = .ok (.if_icmp .ge 40, 3) := by decide +kernel
theorem dTy_symbols_14 : decode cTy_symbols 14 = .ok (.lload_n 0, 1) := by decide +kernel
theorem dTy_symbols_15 : decode cTy_symbols 15 = .ok (.iconst 2, 1) := by decide +kernel
theorem dTy_symbols_16 : decode cTy_symbols 16 = .ok (.iload_n 3, 1) := by decide +kernel
theorem dTy_symbols_17 : decode cTy_symbols 17 = .ok (.imul, 1) := by decide +kernel
theorem dTy_symbols_18 : decode cTy_symbols 18 = .ok (.lushr, 1) := by decide +kernel
theorem dTy_symbols_19 : decode cTy_symbols 19 = .ok (.l2i, 1) := by decide +kernel
theorem dTy_symbols_20 : decode cTy_symbols 20 = .ok (.iconst 3, 1) := by decide +kernel
theorem dTy_symbols_21 : decode cTy_symbols 21 = .ok (.iand, 1) := by decide +kernel
theorem dTy_symbols_22 : decode cTy_symbols 22 = .ok (.istore 4, 2) := by decide +kernel
theorem dTy_symbols_24 : decode cTy_symbols 24 = .ok (.iload 4, 2) := by decide +kernel
theorem dTy_symbols_26 : decode cTy_symbols 26 = .ok (.ifCond .ne 5, 3) := by decide +kernel
theorem dTy_symbols_29 : decode cTy_symbols 29 = .ok (.iconst 0, 1) := by decide +kernel
theorem dTy_symbols_30 : decode cTy_symbols 30 = .ok (.ireturn, 1) := by decide +kernel
theorem dTy_symbols_31 : decode cTy_symbols 31 = .ok (.iload_n 2, 1) := by decide +kernel
theorem dTy_symbols_32 : decode cTy_symbols 32 = .ok (.iload 4, 2) := by decide +kernel
theorem dTy_symbols_34 : decode cTy_symbols 34 = .ok (.iconst 3, 1) := by decide +kernel
theorem dTy_symbols_35 : decode cTy_symbols 35 = .ok (.if_icmp .ne 7, 3) := by decide +kernel
theorem dTy_symbols_38 : decode cTy_symbols 38 = .ok (.iconst 1, 1) := by decide +kernel
theorem dTy_symbols_39 : decode cTy_symbols 39 = .ok (.goto 4, 3) := by decide +kernel
theorem dTy_symbols_42 : decode cTy_symbols 42 = .ok (.iconst (-1), 1) := by decide +kernel
theorem dTy_symbols_43 : decode cTy_symbols 43 = .ok (.iadd, 1) := by decide +kernel
theorem dTy_symbols_44 : decode cTy_symbols 44 = .ok (.istore_n 2, 1) := by decide +kernel
theorem dTy_symbols_45 : decode cTy_symbols 45 = .ok (.iinc 3 1, 3) := by decide +kernel
theorem dTy_symbols_48 : decode cTy_symbols 48 = .ok (.goto (-44), 3) := by decide +kernel
theorem dTy_symbols_51 : decode cTy_symbols 51 = .ok (.iload_n 2, 1) := by decide +kernel
theorem dTy_symbols_52 : decode cTy_symbols 52 = .ok (.ifCond .ne 7, 3) := by decide +kernel
theorem dTy_symbols_55 : decode cTy_symbols 55 = .ok (.iload_n 3, 1) := by decide +kernel
theorem dTy_symbols_56 : decode cTy_symbols 56 = .ok (.goto 4, 3) := by decide +kernel
theorem dTy_symbols_59 : decode cTy_symbols 59 = .ok (.iconst 0, 1) := by decide +kernel
theorem dTy_symbols_60 : decode cTy_symbols 60 = .ok (.ireturn, 1) := by decide +kernel
def f_Ty_symbols_J60  (v0 : Int64) (v2 : Int32) (v3 : Int32) (u0 : Int32) (σ : Mem) : Option (Int32 × Mem) :=
  some (u0, σ)
def f_Ty_symbols_J51  (v0 : Int64) (v2 : Int32) (v3 : Int32) (σ : Mem) : Option (Int32 × Mem) :=
  if v2 = 0 then (
  f_Ty_symbols_J60 v0 v2 v3 v3 σ)
  else (
  f_Ty_symbols_J60 v0 v2 v3 (0 : Int32) σ)
def f_Ty_symbols_J43  (v0 : Int64) (v2 : Int32) (v3 : Int32) (v4 : Int32) (u0 : Int32) (u1 : Int32) (σ : Mem) : Option ((Int32 × Int32 × Mem) ⊕ (Int32 × Mem)) :=
  lt_ (u0 + u1) fun (x1 : Int32) =>
  lt_ (v3 + 1) fun (x2 : Int32) =>
  some (.inl (x1, x2, σ))
def f_Ty_symbols_L4  (v0 : Int64) (v2 : Int32) (v3 : Int32) (σ : Mem) : Option ((Int32 × Int32 × Mem) ⊕ (Int32 × Mem)) :=
  if v2 ≤ 0 then (
  inrM (f_Ty_symbols_J51 v0 v2 v3 σ))
  else (
  if (27 : Int32) ≤ v3 then (
  inrM (f_Ty_symbols_J51 v0 v2 v3 σ))
  else (
  lt_ ((((v0.toUInt64 >>> (((2 : Int32) * v3).toInt64.toUInt64 &&& Int64.toUInt64 63)).toInt64).toInt32) &&& (3 : Int32)) fun (x5 : Int32) =>
  if x5 = 0 then (
  inrM (some ((0 : Int32), σ)))
  else (
  if x5 = (3 : Int32) then (
  f_Ty_symbols_J43 v0 v2 v3 x5 v2 (1 : Int32) σ)
  else (
  f_Ty_symbols_J43 v0 v2 v3 x5 v2 ((-1) : Int32) σ))))
def f_Ty_symbols  (v0 : Int64) (σ : Mem) : Option (Int32 × Mem) :=
  lt_ (1 : Int32) fun (x7 : Int32) =>
  lt_ (0 : Int32) fun (x8 : Int32) =>
  loopF (fun (q : (Int32 × Int32 × Mem)) => f_Ty_symbols_L4 v0 q.1 q.2.1 q.2.2) FU (x7, x8, σ)
set_option maxHeartbeats 4000000 in
set_option maxRecDepth 100000 in
theorem c_Ty_symbols (l : Launch) (g : Gw) (hg : wInj g) {v0 : Int64} {r0 : Int32} {σ σ0 : Mem} (h : f_Ty_symbols v0 σ = some (r0, σ0)) : KI l yTy_symbols cTy_symbols 5 (some .int) 0 g [.long v0] σ r0 σ0 := by
  refine q_met g hg (own := "TermBench$Types") rfl rfl (Nat.le_of_ble_eq_true rfl) (fun p e s m args below meth c R Q cx hRk hr hQ H locs ls hP hS hl => ?_)
  have hx := cx.1
  have hb := cx.2.1
  have hown := cx.2.2.2.1
  have hts := cx.2.2.2.2.1
  have hl : lv_has ls 5 [(0, .long v0)] := hl
  have J60 : ∀ (v0 : Int64) (v2 : Int32) (v3 : Int32) (u0 : Int32) (σ : Mem), f_Ty_symbols_J60 v0 v2 v3 u0 σ = some (r0, σ0) → ∀ (H : Heap) (locs : List Loc) (ls : Array Slot), lv_has ls 5 [(0, .long v0), (2, .int v2), (3, .int v3)] → Wd g σ H → va_S (wA g) s.heap H locs → W p l e R s m args below meth c H locs 0 0 Q (F0 m 60 ls [.int u0]) := by
    intro v0 v2 v3 u0 σ h H locs ls hl hP hS
    unfold f_Ty_symbols_J60 at h
    exact q_ri cx hr rfl hP hS hQ h dTy_symbols_60
  have J51 : ∀ (v0 : Int64) (v2 : Int32) (v3 : Int32) (σ : Mem), f_Ty_symbols_J51 v0 v2 v3 σ = some (r0, σ0) → ∀ (H : Heap) (locs : List Loc) (ls : Array Slot), lv_has ls 5 [(0, .long v0), (2, .int v2), (3, .int v3)] → Wd g σ H → va_S (wA g) s.heap H locs → W p l e R s m args below meth c H locs 0 0 Q (F0 m 51 ls []) := by
    intro v0 v2 v3 σ h H locs ls hl hP hS
    unfold f_Ty_symbols_J51 at h
    refine lv_iload_n hx hb dTy_symbols_51 rfl (lv_at hl 1 rfl) ?_
    refine lv_if_ne (tgt := 59) hx hb dTy_symbols_52 (by decide) (fun hc => ?_) (fun hc => ?_)
    · replace h := if_f h hc
      refine lv_iconst (v := 0) hx hb dTy_symbols_59 (by decide) ?_
      exact J60 _ _ _ _ _ h _ _ _ (lv_sub hl [0, 1, 2] rfl) hP hS
    · replace h := if_t h hc
      refine lv_iload_n hx hb dTy_symbols_55 rfl (lv_at hl 2 rfl) ?_
      refine lv_goto (tgt := 60) hx hb dTy_symbols_56 (by decide) ?_
      exact J60 _ _ _ _ _ h _ _ _ (lv_sub hl [0, 1, 2] rfl) hP hS
  unfold f_Ty_symbols at h
  refine lv_iconst (v := 1) hx hb dTy_symbols_0 (by decide) ?_
  obtain ⟨x7, ex7, h⟩ := lt_some h
  refine q_nmi ex7 ?_
  refine lv_istore_n (lv' := [(2, .int x7), (0, .long v0)]) hx hb dTy_symbols_1 rfl hl (Nat.le_of_ble_eq_true rfl) rfl (fun ls hl => ?_)
  refine lv_iconst (v := 0) hx hb dTy_symbols_2 (by decide) ?_
  obtain ⟨x8, ex8, h⟩ := lt_some h
  refine q_nmi ex8 ?_
  refine lv_istore_n (lv' := [(3, .int x8), (2, .int x7), (0, .long v0)]) hx hb dTy_symbols_3 rfl hl (Nat.le_of_ble_eq_true rfl) rfl (fun ls hl => ?_)
  have L4 : ∀ (n : Nat) (v0 : Int64) (v2 : Int32) (v3 : Int32) (σ : Mem), loopF (fun (q : (Int32 × Int32 × Mem)) => f_Ty_symbols_L4 v0 q.1 q.2.1 q.2.2) n (v2, v3, σ) = some (r0, σ0) → ∀ (H : Heap) (locs : List Loc) (ls : Array Slot), lv_has ls 5 [(0, .long v0), (2, .int v2), (3, .int v3)] → Wd g σ H → va_S (wA g) s.heap H locs → W p l e R s m args below meth c H locs 0 0 Q (F0 m 4 ls []) := by
    intro n
    induction n with
    | zero => intro v0 v2 v3 σ h; exact (loopF_zero h).elim
    | succ n ih4 =>
      intro v0 v2 v3 σ h H locs ls hl hP hS
      obtain ⟨o4, h, K4, E4⟩ := loopF_succ h
      have h : f_Ty_symbols_L4 v0 v2 v3 σ = some o4 := h
      have J43 : ∀ (v2 : Int32) (v3 : Int32) (v4 : Int32) (u0 : Int32) (u1 : Int32) (σ : Mem), f_Ty_symbols_J43 v0 v2 v3 v4 u0 u1 σ = some o4 → ∀ (H : Heap) (locs : List Loc) (ls : Array Slot), lv_has ls 5 [(0, .long v0), (2, .int v2), (3, .int v3), (4, .int v4)] → Wd g σ H → va_S (wA g) s.heap H locs → W p l e R s m args below meth c H locs 0 0 Q (F0 m 43 ls [.int u1, .int u0]) := by
        intro v2 v3 v4 u0 u1 σ h H locs ls hl hP hS
        unfold f_Ty_symbols_J43 at h
        refine lv_iadd hx hb dTy_symbols_43 ?_
        obtain ⟨x1, ex1, h⟩ := lt_some h
        refine q_nmi ex1 ?_
        refine lv_istore_n (lv' := [(2, .int x1), (0, .long v0), (3, .int v3), (4, .int v4)]) hx hb dTy_symbols_44 rfl hl (Nat.le_of_ble_eq_true rfl) rfl (fun ls hl => ?_)
        obtain ⟨x2, ex2, h⟩ := lt_some h
        refine lv_iinc (lv' := [(3, .int x2), (2, .int x1), (0, .long v0), (4, .int v4)]) hx hb dTy_symbols_45 hl (k := 2) rfl (q_inc ex2 (by decide)) (Nat.le_of_ble_eq_true rfl) rfl (fun ls hl => ?_)
        refine lv_goto (tgt := 4) hx hb dTy_symbols_48 (by decide) ?_
        exact ih4 _ _ _ _ (K4 _ (Option.some.inj h).symm) _ _ _ (lv_sub hl [2, 1, 0] rfl) hP hS
      unfold f_Ty_symbols_L4 at h
      refine lv_iload_n hx hb dTy_symbols_4 rfl (lv_at hl 1 rfl) ?_
      refine lv_if_le (tgt := 51) hx hb dTy_symbols_5 (by decide) (fun hc => ?_) (fun hc => ?_)
      · replace h := if_t h hc
        obtain ⟨z3, h, ez3⟩ := inrM_some h
        rw [E4 z3 ez3] at h
        exact J51 _ _ _ _ h _ _ _ (lv_sub hl [0, 1, 2] rfl) hP hS
      · replace h := if_f h hc
        refine lv_iload_n hx hb dTy_symbols_8 rfl (lv_at hl 2 rfl) ?_
        refine lv_bipush (v := 27) hx hb dTy_symbols_9 (by decide) ?_
        refine lv_icmp_ge (tgt := 51) hx hb dTy_symbols_11 (by decide) (fun hc => ?_) (fun hc => ?_)
        · replace h := if_t h hc
          obtain ⟨z4, h, ez4⟩ := inrM_some h
          rw [E4 z4 ez4] at h
          exact J51 _ _ _ _ h _ _ _ (lv_sub hl [0, 1, 2] rfl) hP hS
        · replace h := if_f h hc
          refine lv_lload_n hx hb dTy_symbols_14 rfl (lv_at hl 0 rfl) ?_
          refine lv_iconst (v := 2) hx hb dTy_symbols_15 (by decide) ?_
          refine lv_iload_n hx hb dTy_symbols_16 rfl (lv_at hl 2 rfl) ?_
          refine lv_imul hx hb dTy_symbols_17 ?_
          refine lv_lushr hx hb dTy_symbols_18 rfl ?_
          refine lv_l2i hx hb dTy_symbols_19 rfl ?_
          refine lv_iconst (v := 3) hx hb dTy_symbols_20 (by decide) ?_
          refine lv_iand hx hb dTy_symbols_21 ?_
          obtain ⟨x5, ex5, h⟩ := lt_some h
          refine q_nmi ex5 ?_
          refine lv_istore (lv' := [(4, .int x5), (0, .long v0), (2, .int v2), (3, .int v3)]) hx hb dTy_symbols_22 hl (Nat.le_of_ble_eq_true rfl) rfl (fun ls hl => ?_)
          refine lv_iload hx hb dTy_symbols_24 (lv_at hl 0 rfl) ?_
          refine lv_if_ne (tgt := 31) hx hb dTy_symbols_26 (by decide) (fun hc => ?_) (fun hc => ?_)
          · replace h := if_f h hc
            refine lv_iload_n hx hb dTy_symbols_31 rfl (lv_at hl 2 rfl) ?_
            refine lv_iload hx hb dTy_symbols_32 (lv_at hl 0 rfl) ?_
            refine lv_iconst (v := 3) hx hb dTy_symbols_34 (by decide) ?_
            refine lv_icmp_ne (tgt := 42) hx hb dTy_symbols_35 (by decide) (fun hc => ?_) (fun hc => ?_)
            · replace h := if_f h hc
              refine lv_iconst (v := (-1)) hx hb dTy_symbols_42 (by decide) ?_
              exact J43 _ _ _ _ _ _ h _ _ _ (lv_sub hl [1, 2, 3, 0] rfl) hP hS
            · replace h := if_t h hc
              refine lv_iconst (v := 1) hx hb dTy_symbols_38 (by decide) ?_
              refine lv_goto (tgt := 43) hx hb dTy_symbols_39 (by decide) ?_
              exact J43 _ _ _ _ _ _ h _ _ _ (lv_sub hl [1, 2, 3, 0] rfl) hP hS
          · replace h := if_t h hc
            obtain ⟨z6, h, ez6⟩ := inrM_some h
            rw [E4 z6 ez6] at h
            refine lv_iconst (v := 0) hx hb dTy_symbols_29 (by decide) ?_
            exact q_ri cx hr rfl hP hS hQ h dTy_symbols_30
  exact L4 _ _ _ _ _ h _ _ _ (lv_sub hl [2, 1, 0] rfl) hP hS
theorem dTy_isType_0 : decode cTy_isType 0 = .ok (.lload_n 0, 1) := by decide +kernel
theorem dTy_isType_1 : decode cTy_isType 1 = .ok (.invokestatic 11, 3) := by decide +kernel
theorem dTy_isType_4 : decode cTy_isType 4 = .ok (.istore_n 2, 1) := by decide +kernel
theorem dTy_isType_5 : decode cTy_isType 5 = .ok (.iload_n 2, 1) := by decide +kernel
theorem dTy_isType_6 : decode cTy_isType 6 = .ok (.ifCond .le 17, 3) := by decide +kernel
theorem dTy_isType_9 : decode cTy_isType 9 = .ok (.lload_n 0, 1) := by decide +kernel
theorem dTy_isType_10 : decode cTy_isType 10 = .ok (.iconst 2, 1) := by decide +kernel
theorem dTy_isType_11 : decode cTy_isType 11 = .ok (.iload_n 2, 1) := by decide +kernel
theorem dTy_isType_12 : decode cTy_isType 12 = .ok (.imul, 1) := by decide +kernel
theorem dTy_isType_13 : decode cTy_isType 13 = .ok (.lushr, 1) := by decide +kernel
theorem dTy_isType_14 : decode cTy_isType 14 = .ok (.lconst 0, 1) := by decide +kernel
theorem dTy_isType_15 : decode cTy_isType 15 = .ok (.lcmp, 1) := by decide +kernel
theorem dTy_isType_16 : decode cTy_isType 16 = .ok (.ifCond .ne 7, 3) := by decide +kernel
theorem dTy_isType_19 : decode cTy_isType 19 = .ok (.iconst 1, 1) := by decide +kernel
theorem dTy_isType_20 : decode cTy_isType 20 = .ok (.goto 4, 3) := by decide +kernel
theorem dTy_isType_23 : decode cTy_isType 23 = .ok (.iconst 0, 1) := by decide +kernel
theorem dTy_isType_24 : decode cTy_isType 24 = .ok (.ireturn, 1) := by decide +kernel
def f_Ty_isType_J24  (v0 : Int64) (v2 : Int32) (u0 : Int32) (σ : Mem) : Option (Int32 × Mem) :=
  gd (isB u0) (some (u0, σ))
def f_Ty_isType_J23  (v0 : Int64) (v2 : Int32) (σ : Mem) : Option (Int32 × Mem) :=
  f_Ty_isType_J24 v0 v2 (0 : Int32) σ
def f_Ty_isType  (v0 : Int64) (σ : Mem) : Option (Int32 × Mem) :=
  bn (f_Ty_symbols v0 σ) fun (r4 : Int32) (σ3 : Mem) =>
  if r4 ≤ 0 then (
  f_Ty_isType_J23 v0 r4 σ3)
  else (
  if (lg_cmp ((v0.toUInt64 >>> (((2 : Int32) * r4).toInt64.toUInt64 &&& Int64.toUInt64 63)).toInt64) (0 : Int64)) = 0 then (
  f_Ty_isType_J24 v0 r4 (1 : Int32) σ3)
  else (
  f_Ty_isType_J23 v0 r4 σ3))
set_option maxHeartbeats 4000000 in
set_option maxRecDepth 100000 in
theorem c_Ty_isType (l : Launch) (g : Gw) (hg : wInj g) {v0 : Int64} {r0 : Int32} {σ σ0 : Mem} (h : f_Ty_isType v0 σ = some (r0, σ0)) : KI l yTy_isType cTy_isType 3 (some .boolean) 1 g [.long v0] σ r0 σ0 := by
  refine q_met g hg (own := "TermBench$Types") rfl rfl (Nat.le_of_ble_eq_true rfl) (fun p e s m args below meth c R Q cx hRk hr hQ H locs ls hP hS hl => ?_)
  have hx := cx.1
  have hb := cx.2.1
  have hown := cx.2.2.2.1
  have hts := cx.2.2.2.2.1
  have hl : lv_has ls 3 [(0, .long v0)] := hl
  have J24 : ∀ (v0 : Int64) (v2 : Int32) (u0 : Int32) (σ : Mem), f_Ty_isType_J24 v0 v2 u0 σ = some (r0, σ0) → ∀ (H : Heap) (locs : List Loc) (ls : Array Slot), lv_has ls 3 [(0, .long v0), (2, .int v2)] → Wd g σ H → va_S (wA g) s.heap H locs → W p l e R s m args below meth c H locs 0 0 Q (F0 m 24 ls [.int u0]) := by
    intro v0 v2 u0 σ h H locs ls hl hP hS
    unfold f_Ty_isType_J24 at h
    obtain ⟨b1, h⟩ := gd_some h
    exact q_ri cx hr (isB_n b1) hP hS hQ h dTy_isType_24
  have J23 : ∀ (v0 : Int64) (v2 : Int32) (σ : Mem), f_Ty_isType_J23 v0 v2 σ = some (r0, σ0) → ∀ (H : Heap) (locs : List Loc) (ls : Array Slot), lv_has ls 3 [(0, .long v0), (2, .int v2)] → Wd g σ H → va_S (wA g) s.heap H locs → W p l e R s m args below meth c H locs 0 0 Q (F0 m 23 ls []) := by
    intro v0 v2 σ h H locs ls hl hP hS
    unfold f_Ty_isType_J23 at h
    refine lv_iconst (v := 0) hx hb dTy_isType_23 (by decide) ?_
    exact J24 _ _ _ _ h _ _ _ (lv_sub hl [0, 1] rfl) hP hS
  unfold f_Ty_isType at h
  refine lv_lload_n hx hb dTy_isType_0 rfl (lv_at hl 0 rfl) ?_
  obtain ⟨r4, σ3, h2, h⟩ := bn_some h
  refine q_cSi (rest := []) (As := [.long v0]) cx hP hS hRk (c_Ty_symbols l g hg h2) Y_Ty_symbols S_Ty_symbols t_266 (by decide) rfl hl.1 rfl (Nat.le_of_ble_eq_true rfl) dTy_isType_1 (fun H locs hP hS => ?_)
  refine lv_istore_n (lv' := [(2, .int r4), (0, .long v0)]) hx hb dTy_isType_4 rfl hl (Nat.le_of_ble_eq_true rfl) rfl (fun ls hl => ?_)
  refine lv_iload_n hx hb dTy_isType_5 rfl (lv_at hl 0 rfl) ?_
  refine lv_if_le (tgt := 23) hx hb dTy_isType_6 (by decide) (fun hc => ?_) (fun hc => ?_)
  · replace h := if_t h hc
    exact J23 _ _ _ h _ _ _ (lv_sub hl [1, 0] rfl) hP hS
  · replace h := if_f h hc
    refine lv_lload_n hx hb dTy_isType_9 rfl (lv_at hl 1 rfl) ?_
    refine lv_iconst (v := 2) hx hb dTy_isType_10 (by decide) ?_
    refine lv_iload_n hx hb dTy_isType_11 rfl (lv_at hl 0 rfl) ?_
    refine lv_imul hx hb dTy_isType_12 ?_
    refine lv_lushr hx hb dTy_isType_13 rfl ?_
    refine lv_lconst (v := 0) hx hb dTy_isType_14 rfl ?_
    refine W.lcmp hx hb dTy_isType_15 ?_
    refine lv_if_ne (tgt := 23) hx hb dTy_isType_16 (by decide) (fun hc => ?_) (fun hc => ?_)
    · replace h := if_f h hc
      exact J23 _ _ _ h _ _ _ (lv_sub hl [1, 0] rfl) hP hS
    · replace h := if_t h hc
      refine lv_iconst (v := 1) hx hb dTy_isType_19 (by decide) ?_
      refine lv_goto (tgt := 24) hx hb dTy_isType_20 (by decide) ?_
      exact J24 _ _ _ _ h _ _ _ (lv_sub hl [1, 0] rfl) hP hS
theorem dTy_isFrom_0 : decode cTy_isFrom 0 = .ok (.lload_n 0, 1) := by decide +kernel
theorem dTy_isFrom_1 : decode cTy_isFrom 1 = .ok (.ldc2_w 15, 3) := by decide +kernel
theorem dTy_isFrom_4 : decode cTy_isFrom 4 = .ok (.land, 1) := by decide +kernel
theorem dTy_isFrom_5 : decode cTy_isFrom 5 = .ok (.ldc2_w 15, 3) := by decide +kernel
theorem dTy_isFrom_8 : decode cTy_isFrom 8 = .ok (.lcmp, 1) := by decide +kernel
theorem dTy_isFrom_9 : decode cTy_isFrom 9 = .ok (.ifCond .ne 7, 3) := by decide +kernel
theorem dTy_isFrom_12 : decode cTy_isFrom 12 = .ok (.iconst 1, 1) := by decide +kernel
theorem dTy_isFrom_13 : decode cTy_isFrom 13 = .ok (.goto 4, 3) := by decide +kernel
theorem dTy_isFrom_16 : decode cTy_isFrom 16 = .ok (.iconst 0, 1) := by decide +kernel
theorem dTy_isFrom_17 : decode cTy_isFrom 17 = .ok (.ireturn, 1) := by decide +kernel
def f_Ty_isFrom_J17  (v0 : Int64) (u0 : Int32) (σ : Mem) : Option (Int32 × Mem) :=
  gd (isB u0) (some (u0, σ))
def f_Ty_isFrom  (v0 : Int64) (σ : Mem) : Option (Int32 × Mem) :=
  if (lg_cmp (v0 &&& (3 : Int64)) (3 : Int64)) = 0 then (
  f_Ty_isFrom_J17 v0 (1 : Int32) σ)
  else (
  f_Ty_isFrom_J17 v0 (0 : Int32) σ)
set_option maxHeartbeats 4000000 in
set_option maxRecDepth 100000 in
theorem c_Ty_isFrom (l : Launch) (g : Gw) (hg : wInj g) {v0 : Int64} {r0 : Int32} {σ σ0 : Mem} (h : f_Ty_isFrom v0 σ = some (r0, σ0)) : KI l yTy_isFrom cTy_isFrom 2 (some .boolean) 0 g [.long v0] σ r0 σ0 := by
  refine q_met g hg (own := "TermBench$Types") rfl rfl (Nat.le_of_ble_eq_true rfl) (fun p e s m args below meth c R Q cx hRk hr hQ H locs ls hP hS hl => ?_)
  have hx := cx.1
  have hb := cx.2.1
  have hown := cx.2.2.2.1
  have hts := cx.2.2.2.2.1
  have hl : lv_has ls 2 [(0, .long v0)] := hl
  have J17 : ∀ (v0 : Int64) (u0 : Int32) (σ : Mem), f_Ty_isFrom_J17 v0 u0 σ = some (r0, σ0) → ∀ (H : Heap) (locs : List Loc) (ls : Array Slot), lv_has ls 2 [(0, .long v0)] → Wd g σ H → va_S (wA g) s.heap H locs → W p l e R s m args below meth c H locs 0 0 Q (F0 m 17 ls [.int u0]) := by
    intro v0 u0 σ h H locs ls hl hP hS
    unfold f_Ty_isFrom_J17 at h
    obtain ⟨b1, h⟩ := gd_some h
    exact q_ri cx hr (isB_n b1) hP hS hQ h dTy_isFrom_17
  unfold f_Ty_isFrom at h
  refine lv_lload_n hx hb dTy_isFrom_0 rfl (lv_at hl 0 rfl) ?_
  refine lv_ldc2 (own := "TermBench$Types") (index := 15) (v := 3) hx hb hown (hts _ t_374) dTy_isFrom_1 ?_
  refine lv_land hx hb dTy_isFrom_4 ?_
  refine lv_ldc2 (own := "TermBench$Types") (index := 15) (v := 3) hx hb hown (hts _ t_374) dTy_isFrom_5 ?_
  refine W.lcmp hx hb dTy_isFrom_8 ?_
  refine lv_if_ne (tgt := 16) hx hb dTy_isFrom_9 (by decide) (fun hc => ?_) (fun hc => ?_)
  · replace h := if_f h hc
    refine lv_iconst (v := 0) hx hb dTy_isFrom_16 (by decide) ?_
    exact J17 _ _ _ h _ _ _ (lv_sub hl [0] rfl) hP hS
  · replace h := if_t h hc
    refine lv_iconst (v := 1) hx hb dTy_isFrom_12 (by decide) ?_
    refine lv_goto (tgt := 17) hx hb dTy_isFrom_13 (by decide) ?_
    exact J17 _ _ _ h _ _ _ (lv_sub hl [0] rfl) hP hS
theorem dTy_taken_0 : decode cTy_taken 0 = .ok (.lload_n 0, 1) := by decide +kernel
theorem dTy_taken_1 : decode cTy_taken 1 = .ok (.iconst 2, 1) := by decide +kernel
theorem dTy_taken_2 : decode cTy_taken 2 = .ok (.lushr, 1) := by decide +kernel
theorem dTy_taken_3 : decode cTy_taken 3 = .ok (.lstore_n 2, 1) := by decide +kernel
theorem dTy_taken_4 : decode cTy_taken 4 = .ok (.lload_n 2, 1) := by decide +kernel
theorem dTy_taken_5 : decode cTy_taken 5 = .ok (.lconst 1, 1) := by decide +kernel
theorem dTy_taken_6 : decode cTy_taken 6 = .ok (.iconst 2, 1) := by decide +kernel
theorem dTy_taken_7 : decode cTy_taken 7 = .ok (.lload_n 2, 1) := by decide +kernel
theorem dTy_taken_8 : decode cTy_taken 8 = .ok (.invokestatic 11, 3) := by decide +kernel
theorem dTy_taken_11 : decode cTy_taken 11 = .ok (.imul, 1) := by decide +kernel
theorem dTy_taken_12 : decode cTy_taken 12 = .ok (.lshl, 1) := by decide +kernel
theorem dTy_taken_13 : decode cTy_taken 13 = .ok (.lconst 1, 1) := by decide +kernel
theorem dTy_taken_14 : decode cTy_taken 14 = .ok (.lsub, 1) := by decide +kernel
theorem dTy_taken_15 : decode cTy_taken 15 = .ok (.land, 1) := by decide +kernel
theorem dTy_taken_16 : decode cTy_taken 16 = .ok (.lreturn, 1) := by decide +kernel
def f_Ty_taken  (v0 : Int64) (σ : Mem) : Option (Int64 × Mem) :=
  lt_ ((v0.toUInt64 >>> ((2 : Int32).toInt64.toUInt64 &&& Int64.toUInt64 63)).toInt64) fun (x1 : Int64) =>
  bn (f_Ty_symbols x1 σ) fun (r4 : Int32) (σ3 : Mem) =>
  some (x1 &&& (((1 : Int64) <<< (((2 : Int32) * r4).toInt64 &&& 63)) - (1 : Int64)), σ3)
set_option maxHeartbeats 4000000 in
set_option maxRecDepth 100000 in
theorem c_Ty_taken (l : Launch) (g : Gw) (hg : wInj g) {v0 : Int64} {r0 : Int64} {σ σ0 : Mem} (h : f_Ty_taken v0 σ = some (r0, σ0)) : KL l yTy_taken cTy_taken 4 (some .long) 1 g [.long v0] σ r0 σ0 := by
  refine q_met g hg (own := "TermBench$Types") rfl rfl (Nat.le_of_ble_eq_true rfl) (fun p e s m args below meth c R Q cx hRk hr hQ H locs ls hP hS hl => ?_)
  have hx := cx.1
  have hb := cx.2.1
  have hown := cx.2.2.2.1
  have hts := cx.2.2.2.2.1
  have hl : lv_has ls 4 [(0, .long v0)] := hl
  unfold f_Ty_taken at h
  refine lv_lload_n hx hb dTy_taken_0 rfl (lv_at hl 0 rfl) ?_
  refine lv_iconst (v := 2) hx hb dTy_taken_1 (by decide) ?_
  refine lv_lushr hx hb dTy_taken_2 rfl ?_
  obtain ⟨x1, ex1, h⟩ := lt_some h
  refine q_nml ex1 ?_
  refine lv_lstore_n (lv' := [(2, .long x1), (0, .long v0)]) hx hb dTy_taken_3 rfl hl (Nat.le_of_ble_eq_true rfl) rfl (fun ls hl => ?_)
  refine lv_lload_n hx hb dTy_taken_4 rfl (lv_at hl 0 rfl) ?_
  refine lv_lconst (v := 1) hx hb dTy_taken_5 rfl ?_
  refine lv_iconst (v := 2) hx hb dTy_taken_6 (by decide) ?_
  refine lv_lload_n hx hb dTy_taken_7 rfl (lv_at hl 0 rfl) ?_
  obtain ⟨r4, σ3, h2, h⟩ := bn_some h
  refine q_cSi (rest := [.int (2 : Int32), .long (1 : Int64), .long x1]) (As := [.long x1]) cx hP hS hRk (c_Ty_symbols l g hg h2) Y_Ty_symbols S_Ty_symbols t_266 (by decide) rfl hl.1 rfl (Nat.le_of_ble_eq_true rfl) dTy_taken_8 (fun H locs hP hS => ?_)
  refine lv_imul hx hb dTy_taken_11 ?_
  refine lv_lshl hx hb dTy_taken_12 rfl ?_
  refine lv_lconst (v := 1) hx hb dTy_taken_13 rfl ?_
  refine lv_lsub hx hb dTy_taken_14 ?_
  refine lv_land hx hb dTy_taken_15 ?_
  exact q_rl cx hr hP hS hQ h dTy_taken_16
theorem dTy_given_0 : decode cTy_given 0 = .ok (.lload_n 0, 1) := by decide +kernel
theorem dTy_given_1 : decode cTy_given 1 = .ok (.iconst 2, 1) := by decide +kernel
theorem dTy_given_2 : decode cTy_given 2 = .ok (.lushr, 1) := by decide +kernel
theorem dTy_given_3 : decode cTy_given 3 = .ok (.lstore_n 2, 1) := by decide +kernel
theorem dTy_given_4 : decode cTy_given 4 = .ok (.lload_n 2, 1) := by decide +kernel
theorem dTy_given_5 : decode cTy_given 5 = .ok (.iconst 2, 1) := by decide +kernel
theorem dTy_given_6 : decode cTy_given 6 = .ok (.lload_n 2, 1) := by decide +kernel
theorem dTy_given_7 : decode cTy_given 7 = .ok (.invokestatic 11, 3) := by decide +kernel
theorem dTy_given_10 : decode cTy_given 10 = .ok (.imul, 1) := by decide +kernel
theorem dTy_given_11 : decode cTy_given 11 = .ok (.lushr, 1) := by decide +kernel
theorem dTy_given_12 : decode cTy_given 12 = .ok (.lreturn, 1) := by decide +kernel
def f_Ty_given  (v0 : Int64) (σ : Mem) : Option (Int64 × Mem) :=
  lt_ ((v0.toUInt64 >>> ((2 : Int32).toInt64.toUInt64 &&& Int64.toUInt64 63)).toInt64) fun (x1 : Int64) =>
  bn (f_Ty_symbols x1 σ) fun (r4 : Int32) (σ3 : Mem) =>
  some ((x1.toUInt64 >>> (((2 : Int32) * r4).toInt64.toUInt64 &&& Int64.toUInt64 63)).toInt64, σ3)
set_option maxHeartbeats 4000000 in
set_option maxRecDepth 100000 in
theorem c_Ty_given (l : Launch) (g : Gw) (hg : wInj g) {v0 : Int64} {r0 : Int64} {σ σ0 : Mem} (h : f_Ty_given v0 σ = some (r0, σ0)) : KL l yTy_given cTy_given 4 (some .long) 1 g [.long v0] σ r0 σ0 := by
  refine q_met g hg (own := "TermBench$Types") rfl rfl (Nat.le_of_ble_eq_true rfl) (fun p e s m args below meth c R Q cx hRk hr hQ H locs ls hP hS hl => ?_)
  have hx := cx.1
  have hb := cx.2.1
  have hown := cx.2.2.2.1
  have hts := cx.2.2.2.2.1
  have hl : lv_has ls 4 [(0, .long v0)] := hl
  unfold f_Ty_given at h
  refine lv_lload_n hx hb dTy_given_0 rfl (lv_at hl 0 rfl) ?_
  refine lv_iconst (v := 2) hx hb dTy_given_1 (by decide) ?_
  refine lv_lushr hx hb dTy_given_2 rfl ?_
  obtain ⟨x1, ex1, h⟩ := lt_some h
  refine q_nml ex1 ?_
  refine lv_lstore_n (lv' := [(2, .long x1), (0, .long v0)]) hx hb dTy_given_3 rfl hl (Nat.le_of_ble_eq_true rfl) rfl (fun ls hl => ?_)
  refine lv_lload_n hx hb dTy_given_4 rfl (lv_at hl 0 rfl) ?_
  refine lv_iconst (v := 2) hx hb dTy_given_5 (by decide) ?_
  refine lv_lload_n hx hb dTy_given_6 rfl (lv_at hl 0 rfl) ?_
  obtain ⟨r4, σ3, h2, h⟩ := bn_some h
  refine q_cSi (rest := [.int (2 : Int32), .long x1]) (As := [.long x1]) cx hP hS hRk (c_Ty_symbols l g hg h2) Y_Ty_symbols S_Ty_symbols t_266 (by decide) rfl hl.1 rfl (Nat.le_of_ble_eq_true rfl) dTy_given_7 (fun H locs hP hS => ?_)
  refine lv_imul hx hb dTy_given_10 ?_
  refine lv_lushr hx hb dTy_given_11 rfl ?_
  exact q_rl cx hr hP hS hQ h dTy_given_12
theorem dTy_consistent_0 : decode cTy_consistent 0 = .ok (.lload_n 0, 1) := by decide +kernel
theorem dTy_consistent_1 : decode cTy_consistent 1 = .ok (.lconst 1, 1) := by decide +kernel
theorem dTy_consistent_2 : decode cTy_consistent 2 = .ok (.lcmp, 1) := by decide +kernel
theorem dTy_consistent_3 : decode cTy_consistent 3 = .ok (.ifCond .eq 16, 3) := by decide +kernel
theorem dTy_consistent_6 : decode cTy_consistent 6 = .ok (.lload_n 2, 1) := by decide +kernel
theorem dTy_consistent_7 : decode cTy_consistent 7 = .ok (.lconst 1, 1) := by decide +kernel
theorem dTy_consistent_8 : decode cTy_consistent 8 = .ok (.lcmp, 1) := by decide +kernel
theorem dTy_consistent_9 : decode cTy_consistent 9 = .ok (.ifCond .eq 10, 3) := by decide +kernel
theorem dTy_consistent_12 : decode cTy_consistent 12 = .ok (.iload 4, 2) := by decide +kernel
theorem dTy_consistent_14 : decode cTy_consistent 14 = .ok (.bipush 27, 2) := by decide +kernel
theorem dTy_consistent_16 : decode cTy_consistent 16 = .ok (.if_icmp .lt 5, 3) := by decide +kernel
theorem dTy_consistent_19 : decode cTy_consistent 19 = .ok (.iconst 1, 1) := by decide +kernel
theorem dTy_consistent_20 : decode cTy_consistent 20 = .ok (.ireturn, 1) := by decide +kernel
theorem dTy_consistent_21 : decode cTy_consistent 21 = .ok (.lload_n 0, 1) := by decide +kernel
theorem dTy_consistent_22 : decode cTy_consistent 22 = .ok (.invokestatic 17, 3) := by decide +kernel
theorem dTy_consistent_25 : decode cTy_consistent 25 = .ok (.ifCond .eq 10, 3) := by decide +kernel
theorem dTy_consistent_28 : decode cTy_consistent 28 = .ok (.lload_n 2, 1) := by decide +kernel
theorem dTy_consistent_29 : decode cTy_consistent 29 = .ok (.invokestatic 17, 3) := by decide +kernel
theorem dTy_consistent_32 : decode cTy_consistent 32 = .ok (.ifCond .ne 15, 3) := by decide +kernel
theorem dTy_consistent_35 : decode cTy_consistent 35 = .ok (.lload_n 0, 1) := by decide +kernel
theorem dTy_consistent_36 : decode cTy_consistent 36 = .ok (.lload_n 2, 1) := by decide +kernel
theorem dTy_consistent_37 : decode cTy_consistent 37 = .ok (.lcmp, 1) := by decide +kernel
theorem dTy_consistent_38 : decode cTy_consistent 38 = .ok (.ifCond .ne 7, 3) := by decide +kernel
theorem dTy_consistent_41 : decode cTy_consistent 41 = .ok (.iconst 1, 1) := by decide +kernel
theorem dTy_consistent_42 : decode cTy_consistent 42 = .ok (.goto 4, 3) := by decide +kernel
theorem dTy_consistent_45 : decode cTy_consistent 45 = .ok (.iconst 0, 1) := by decide +kernel
theorem dTy_consistent_46 : decode cTy_consistent 46 = .ok (.ireturn, 1) := by decide +kernel
theorem dTy_consistent_47 : decode cTy_consistent 47 = .ok (.lload_n 0, 1) := by decide +kernel
theorem dTy_consistent_48 : decode cTy_consistent 48 = .ok (.invokestatic 21, 3) := by decide +kernel
theorem dTy_consistent_51 : decode cTy_consistent 51 = .ok (.lload_n 2, 1) := by decide +kernel
theorem dTy_consistent_52 : decode cTy_consistent 52 = .ok (.invokestatic 21, 3) := by decide +kernel
theorem dTy_consistent_55 : decode cTy_consistent 55 = .ok (.iload 4, 2) := by decide +kernel
theorem dTy_consistent_57 : decode cTy_consistent 57 = .ok (.iconst 1, 1) := by decide +kernel
theorem dTy_consistent_58 : decode cTy_consistent 58 = .ok (.iadd, 1) := by decide +kernel
theorem dTy_consistent_59 : decode cTy_consistent 59 = .ok (.invokestatic 25, 3) := by decide +kernel
theorem dTy_consistent_62 : decode cTy_consistent 62 = .ok (.ifCond .eq 25, 3) := by decide +kernel
theorem dTy_consistent_65 : decode cTy_consistent 65 = .ok (.lload_n 0, 1) := by decide +kernel
theorem dTy_consistent_66 : decode cTy_consistent 66 = .ok (.invokestatic 29, 3) := by decide +kernel
theorem dTy_consistent_69 : decode cTy_consistent 69 = .ok (.lload_n 2, 1) := by decide +kernel
theorem dTy_consistent_70 : decode cTy_consistent 70 = .ok (.invokestatic 29, 3) := by decide +kernel
theorem dTy_consistent_73 : decode cTy_consistent 73 = .ok (.iload 4, 2) := by decide +kernel
theorem dTy_consistent_75 : decode cTy_consistent 75 = .ok (.iconst 1, 1) := by decide +kernel
theorem dTy_consistent_76 : decode cTy_consistent 76 = .ok (.iadd, 1) := by decide +kernel
theorem dTy_consistent_77 : decode cTy_consistent 77 = .ok (.invokestatic 25, 3) := by decide +kernel
theorem dTy_consistent_80 : decode cTy_consistent 80 = .ok (.ifCond .eq 7, 3) := by decide +kernel
theorem dTy_consistent_83 : decode cTy_consistent 83 = .ok (.iconst 1, 1) := by decide +kernel
theorem dTy_consistent_84 : decode cTy_consistent 84 = .ok (.goto 4, 3) := by decide +kernel
theorem dTy_consistent_87 : decode cTy_consistent 87 = .ok (.iconst 0, 1) := by decide +kernel
theorem dTy_consistent_88 : decode cTy_consistent 88 = .ok (.ireturn, 1) := by decide +kernel
def f_Ty_consistent_J88 (rc : Int64 → Int64 → Int32 → Mem → Option (Int32 × Mem))  (v0 : Int64) (v2 : Int64) (v4 : Int32) (u0 : Int32) (σ : Mem) : Option (Int32 × Mem) :=
  gd (isB u0) (some (u0, σ))
def f_Ty_consistent_J87 (rc : Int64 → Int64 → Int32 → Mem → Option (Int32 × Mem))  (v0 : Int64) (v2 : Int64) (v4 : Int32) (σ : Mem) : Option (Int32 × Mem) :=
  f_Ty_consistent_J88 rc v0 v2 v4 (0 : Int32) σ
def f_Ty_consistent_J46 (rc : Int64 → Int64 → Int32 → Mem → Option (Int32 × Mem))  (v0 : Int64) (v2 : Int64) (v4 : Int32) (u0 : Int32) (σ : Mem) : Option (Int32 × Mem) :=
  gd (isB u0) (some (u0, σ))
def f_Ty_consistent_J35 (rc : Int64 → Int64 → Int32 → Mem → Option (Int32 × Mem))  (v0 : Int64) (v2 : Int64) (v4 : Int32) (σ : Mem) : Option (Int32 × Mem) :=
  if (lg_cmp v0 v2) = 0 then (
  f_Ty_consistent_J46 rc v0 v2 v4 (1 : Int32) σ)
  else (
  f_Ty_consistent_J46 rc v0 v2 v4 (0 : Int32) σ)
def f_Ty_consistent_J19 (rc : Int64 → Int64 → Int32 → Mem → Option (Int32 × Mem))  (v0 : Int64) (v2 : Int64) (v4 : Int32) (σ : Mem) : Option (Int32 × Mem) :=
  some ((1 : Int32), σ)
def f_Ty_consistent (rc : Int64 → Int64 → Int32 → Mem → Option (Int32 × Mem))  (v0 : Int64) (v2 : Int64) (v4 : Int32) (σ : Mem) : Option (Int32 × Mem) :=
  if (lg_cmp v0 (1 : Int64)) = 0 then (
  f_Ty_consistent_J19 rc v0 v2 v4 σ)
  else (
  if (lg_cmp v2 (1 : Int64)) = 0 then (
  f_Ty_consistent_J19 rc v0 v2 v4 σ)
  else (
  if v4 < (27 : Int32) then (
  bn (f_Ty_isFrom v0 σ) fun (r5 : Int32) (σ4 : Mem) =>
  if r5 = 0 then (
  f_Ty_consistent_J35 rc v0 v2 v4 σ4)
  else (
  bn (f_Ty_isFrom v2 σ4) fun (r8 : Int32) (σ7 : Mem) =>
  if r8 = 0 then (
  f_Ty_consistent_J35 rc v0 v2 v4 σ7)
  else (
  bn (f_Ty_taken v0 σ7) fun (r11 : Int64) (σ10 : Mem) =>
  bn (f_Ty_taken v2 σ10) fun (r14 : Int64) (σ13 : Mem) =>
  bn (rc r11 r14 (v4 + (1 : Int32)) σ13) fun (r17 : Int32) (σ16 : Mem) =>
  if r17 = 0 then (
  f_Ty_consistent_J87 rc v0 v2 v4 σ16)
  else (
  bn (f_Ty_given v0 σ16) fun (r20 : Int64) (σ19 : Mem) =>
  bn (f_Ty_given v2 σ19) fun (r23 : Int64) (σ22 : Mem) =>
  bn (rc r20 r23 (v4 + (1 : Int32)) σ22) fun (r26 : Int32) (σ25 : Mem) =>
  if r26 = 0 then (
  f_Ty_consistent_J87 rc v0 v2 v4 σ25)
  else (
  f_Ty_consistent_J88 rc v0 v2 v4 (1 : Int32) σ25)))))
  else (
  f_Ty_consistent_J19 rc v0 v2 v4 σ)))
set_option maxHeartbeats 4000000 in
set_option maxRecDepth 100000 in
theorem c_Ty_consistent (l : Launch) (g : Gw) (hg : wInj g) {rc : Int64 → Int64 → Int32 → Mem → Option (Int32 × Mem)} {d0 : Nat} (hd0 : 2 ≤ d0) (hrc : ∀ {v0 : Int64} {v2 : Int64} {v4 : Int32} {r0 : Int32} {σ σ0 : Mem}, rc v0 v2 v4 σ = some (r0, σ0) → KI l yTy_consistent cTy_consistent 5 (some .boolean) d0 g [.long v0, .long v2, .int v4] σ r0 σ0) {v0 : Int64} {v2 : Int64} {v4 : Int32} {r0 : Int32} {σ σ0 : Mem} (h : f_Ty_consistent rc v0 v2 v4 σ = some (r0, σ0)) : KI l yTy_consistent cTy_consistent 5 (some .boolean) (d0 + 1) g [.long v0, .long v2, .int v4] σ r0 σ0 := by
  refine q_met g hg (own := "TermBench$Types") rfl rfl (Nat.le_of_ble_eq_true rfl) (fun p e s m args below meth c R Q cx hRk hr hQ H locs ls hP hS hl => ?_)
  have hx := cx.1
  have hb := cx.2.1
  have hown := cx.2.2.2.1
  have hts := cx.2.2.2.2.1
  have hl : lv_has ls 5 [(0, .long v0), (2, .long v2), (4, .int v4)] := hl
  have J88 : ∀ (v0 : Int64) (v2 : Int64) (v4 : Int32) (u0 : Int32) (σ : Mem), f_Ty_consistent_J88 rc v0 v2 v4 u0 σ = some (r0, σ0) → ∀ (H : Heap) (locs : List Loc) (ls : Array Slot), lv_has ls 5 [(0, .long v0), (2, .long v2), (4, .int v4)] → Wd g σ H → va_S (wA g) s.heap H locs → W p l e R s m args below meth c H locs 0 0 Q (F0 m 88 ls [.int u0]) := by
    intro v0 v2 v4 u0 σ h H locs ls hl hP hS
    unfold f_Ty_consistent_J88 at h
    obtain ⟨b1, h⟩ := gd_some h
    exact q_ri cx hr (isB_n b1) hP hS hQ h dTy_consistent_88
  have J87 : ∀ (v0 : Int64) (v2 : Int64) (v4 : Int32) (σ : Mem), f_Ty_consistent_J87 rc v0 v2 v4 σ = some (r0, σ0) → ∀ (H : Heap) (locs : List Loc) (ls : Array Slot), lv_has ls 5 [(0, .long v0), (2, .long v2), (4, .int v4)] → Wd g σ H → va_S (wA g) s.heap H locs → W p l e R s m args below meth c H locs 0 0 Q (F0 m 87 ls []) := by
    intro v0 v2 v4 σ h H locs ls hl hP hS
    unfold f_Ty_consistent_J87 at h
    refine lv_iconst (v := 0) hx hb dTy_consistent_87 (by decide) ?_
    exact J88 _ _ _ _ _ h _ _ _ (lv_sub hl [0, 1, 2] rfl) hP hS
  have J46 : ∀ (v0 : Int64) (v2 : Int64) (v4 : Int32) (u0 : Int32) (σ : Mem), f_Ty_consistent_J46 rc v0 v2 v4 u0 σ = some (r0, σ0) → ∀ (H : Heap) (locs : List Loc) (ls : Array Slot), lv_has ls 5 [(0, .long v0), (2, .long v2), (4, .int v4)] → Wd g σ H → va_S (wA g) s.heap H locs → W p l e R s m args below meth c H locs 0 0 Q (F0 m 46 ls [.int u0]) := by
    intro v0 v2 v4 u0 σ h H locs ls hl hP hS
    unfold f_Ty_consistent_J46 at h
    obtain ⟨b2, h⟩ := gd_some h
    exact q_ri cx hr (isB_n b2) hP hS hQ h dTy_consistent_46
  have J35 : ∀ (v0 : Int64) (v2 : Int64) (v4 : Int32) (σ : Mem), f_Ty_consistent_J35 rc v0 v2 v4 σ = some (r0, σ0) → ∀ (H : Heap) (locs : List Loc) (ls : Array Slot), lv_has ls 5 [(0, .long v0), (2, .long v2), (4, .int v4)] → Wd g σ H → va_S (wA g) s.heap H locs → W p l e R s m args below meth c H locs 0 0 Q (F0 m 35 ls []) := by
    intro v0 v2 v4 σ h H locs ls hl hP hS
    unfold f_Ty_consistent_J35 at h
    refine lv_lload_n hx hb dTy_consistent_35 rfl (lv_at hl 0 rfl) ?_
    refine lv_lload_n hx hb dTy_consistent_36 rfl (lv_at hl 1 rfl) ?_
    refine W.lcmp hx hb dTy_consistent_37 ?_
    refine lv_if_ne (tgt := 45) hx hb dTy_consistent_38 (by decide) (fun hc => ?_) (fun hc => ?_)
    · replace h := if_f h hc
      refine lv_iconst (v := 0) hx hb dTy_consistent_45 (by decide) ?_
      exact J46 _ _ _ _ _ h _ _ _ (lv_sub hl [0, 1, 2] rfl) hP hS
    · replace h := if_t h hc
      refine lv_iconst (v := 1) hx hb dTy_consistent_41 (by decide) ?_
      refine lv_goto (tgt := 46) hx hb dTy_consistent_42 (by decide) ?_
      exact J46 _ _ _ _ _ h _ _ _ (lv_sub hl [0, 1, 2] rfl) hP hS
  have J19 : ∀ (v0 : Int64) (v2 : Int64) (v4 : Int32) (σ : Mem), f_Ty_consistent_J19 rc v0 v2 v4 σ = some (r0, σ0) → ∀ (H : Heap) (locs : List Loc) (ls : Array Slot), lv_has ls 5 [(0, .long v0), (2, .long v2), (4, .int v4)] → Wd g σ H → va_S (wA g) s.heap H locs → W p l e R s m args below meth c H locs 0 0 Q (F0 m 19 ls []) := by
    intro v0 v2 v4 σ h H locs ls hl hP hS
    unfold f_Ty_consistent_J19 at h
    refine lv_iconst (v := 1) hx hb dTy_consistent_19 (by decide) ?_
    exact q_ri cx hr rfl hP hS hQ h dTy_consistent_20
  unfold f_Ty_consistent at h
  refine lv_lload_n hx hb dTy_consistent_0 rfl (lv_at hl 0 rfl) ?_
  refine lv_lconst (v := 1) hx hb dTy_consistent_1 rfl ?_
  refine W.lcmp hx hb dTy_consistent_2 ?_
  refine lv_if_eq (tgt := 19) hx hb dTy_consistent_3 (by decide) (fun hc => ?_) (fun hc => ?_)
  · replace h := if_t h hc
    exact J19 _ _ _ _ h _ _ _ (lv_sub hl [0, 1, 2] rfl) hP hS
  · replace h := if_f h hc
    refine lv_lload_n hx hb dTy_consistent_6 rfl (lv_at hl 1 rfl) ?_
    refine lv_lconst (v := 1) hx hb dTy_consistent_7 rfl ?_
    refine W.lcmp hx hb dTy_consistent_8 ?_
    refine lv_if_eq (tgt := 19) hx hb dTy_consistent_9 (by decide) (fun hc => ?_) (fun hc => ?_)
    · replace h := if_t h hc
      exact J19 _ _ _ _ h _ _ _ (lv_sub hl [0, 1, 2] rfl) hP hS
    · replace h := if_f h hc
      refine lv_iload hx hb dTy_consistent_12 (lv_at hl 2 rfl) ?_
      refine lv_bipush (v := 27) hx hb dTy_consistent_14 (by decide) ?_
      refine lv_icmp_lt (tgt := 21) hx hb dTy_consistent_16 (by decide) (fun hc => ?_) (fun hc => ?_)
      · replace h := if_t h hc
        refine lv_lload_n hx hb dTy_consistent_21 rfl (lv_at hl 0 rfl) ?_
        obtain ⟨r5, σ4, h3, h⟩ := bn_some h
        refine q_cSi (rest := []) (As := [.long v0]) cx hP hS hRk (c_Ty_isFrom l g hg h3) Y_Ty_isFrom S_Ty_isFrom t_443 (by omega) rfl hl.1 rfl (Nat.le_of_ble_eq_true rfl) dTy_consistent_22 (fun H locs hP hS => ?_)
        refine lv_if_eq (tgt := 35) hx hb dTy_consistent_25 (by decide) (fun hc => ?_) (fun hc => ?_)
        · replace h := if_t h hc
          exact J35 _ _ _ _ h _ _ _ (lv_sub hl [0, 1, 2] rfl) hP hS
        · replace h := if_f h hc
          refine lv_lload_n hx hb dTy_consistent_28 rfl (lv_at hl 1 rfl) ?_
          obtain ⟨r8, σ7, h6, h⟩ := bn_some h
          refine q_cSi (rest := []) (As := [.long v2]) cx hP hS hRk (c_Ty_isFrom l g hg h6) Y_Ty_isFrom S_Ty_isFrom t_443 (by omega) rfl hl.1 rfl (Nat.le_of_ble_eq_true rfl) dTy_consistent_29 (fun H locs hP hS => ?_)
          refine lv_if_ne (tgt := 47) hx hb dTy_consistent_32 (by decide) (fun hc => ?_) (fun hc => ?_)
          · replace h := if_f h hc
            refine lv_lload_n hx hb dTy_consistent_47 rfl (lv_at hl 0 rfl) ?_
            obtain ⟨r11, σ10, h9, h⟩ := bn_some h
            refine q_cSl (rest := []) (As := [.long v0]) cx hP hS hRk (c_Ty_taken l g hg h9) Y_Ty_taken S_Ty_taken t_444 (by omega) rfl hl.1 rfl (Nat.le_of_ble_eq_true rfl) dTy_consistent_48 (fun H locs hP hS => ?_)
            refine lv_lload_n hx hb dTy_consistent_51 rfl (lv_at hl 1 rfl) ?_
            obtain ⟨r14, σ13, h12, h⟩ := bn_some h
            refine q_cSl (rest := [.long r11]) (As := [.long v2]) cx hP hS hRk (c_Ty_taken l g hg h12) Y_Ty_taken S_Ty_taken t_444 (by omega) rfl hl.1 rfl (Nat.le_of_ble_eq_true rfl) dTy_consistent_52 (fun H locs hP hS => ?_)
            refine lv_iload hx hb dTy_consistent_55 (lv_at hl 2 rfl) ?_
            refine lv_iconst (v := 1) hx hb dTy_consistent_57 (by decide) ?_
            refine lv_iadd hx hb dTy_consistent_58 ?_
            obtain ⟨r17, σ16, h15, h⟩ := bn_some h
            refine q_cSi (rest := []) (As := [.long r11, .long r14, .int (v4 + (1 : Int32))]) cx hP hS hRk (hrc h15) Y_Ty_consistent S_Ty_consistent t_445 (by omega) rfl hl.1 rfl (Nat.le_of_ble_eq_true rfl) dTy_consistent_59 (fun H locs hP hS => ?_)
            refine lv_if_eq (tgt := 87) hx hb dTy_consistent_62 (by decide) (fun hc => ?_) (fun hc => ?_)
            · replace h := if_t h hc
              exact J87 _ _ _ _ h _ _ _ (lv_sub hl [0, 1, 2] rfl) hP hS
            · replace h := if_f h hc
              refine lv_lload_n hx hb dTy_consistent_65 rfl (lv_at hl 0 rfl) ?_
              obtain ⟨r20, σ19, h18, h⟩ := bn_some h
              refine q_cSl (rest := []) (As := [.long v0]) cx hP hS hRk (c_Ty_given l g hg h18) Y_Ty_given S_Ty_given t_446 (by omega) rfl hl.1 rfl (Nat.le_of_ble_eq_true rfl) dTy_consistent_66 (fun H locs hP hS => ?_)
              refine lv_lload_n hx hb dTy_consistent_69 rfl (lv_at hl 1 rfl) ?_
              obtain ⟨r23, σ22, h21, h⟩ := bn_some h
              refine q_cSl (rest := [.long r20]) (As := [.long v2]) cx hP hS hRk (c_Ty_given l g hg h21) Y_Ty_given S_Ty_given t_446 (by omega) rfl hl.1 rfl (Nat.le_of_ble_eq_true rfl) dTy_consistent_70 (fun H locs hP hS => ?_)
              refine lv_iload hx hb dTy_consistent_73 (lv_at hl 2 rfl) ?_
              refine lv_iconst (v := 1) hx hb dTy_consistent_75 (by decide) ?_
              refine lv_iadd hx hb dTy_consistent_76 ?_
              obtain ⟨r26, σ25, h24, h⟩ := bn_some h
              refine q_cSi (rest := []) (As := [.long r20, .long r23, .int (v4 + (1 : Int32))]) cx hP hS hRk (hrc h24) Y_Ty_consistent S_Ty_consistent t_445 (by omega) rfl hl.1 rfl (Nat.le_of_ble_eq_true rfl) dTy_consistent_77 (fun H locs hP hS => ?_)
              refine lv_if_eq (tgt := 87) hx hb dTy_consistent_80 (by decide) (fun hc => ?_) (fun hc => ?_)
              · replace h := if_t h hc
                exact J87 _ _ _ _ h _ _ _ (lv_sub hl [0, 1, 2] rfl) hP hS
              · replace h := if_f h hc
                refine lv_iconst (v := 1) hx hb dTy_consistent_83 (by decide) ?_
                refine lv_goto (tgt := 88) hx hb dTy_consistent_84 (by decide) ?_
                exact J88 _ _ _ _ _ h _ _ _ (lv_sub hl [0, 1, 2] rfl) hP hS
          · replace h := if_t h hc
            exact J35 _ _ _ _ h _ _ _ (lv_sub hl [0, 1, 2] rfl) hP hS
      · replace h := if_f h hc
        exact J19 _ _ _ _ h _ _ _ (lv_sub hl [0, 1, 2] rfl) hP hS
def F_Ty_consistent : Nat → Int64 → Int64 → Int32 → Mem → Option (Int32 × Mem)
  | 0 => fun _ _ _ _ => none
  | n + 1 => fun a0 a1 a2 a3 => f_Ty_consistent (F_Ty_consistent n) a0 a1 a2 a3
theorem C_Ty_consistent (l : Launch) (g : Gw) (hg : wInj g) : ∀ (n : Nat) {v0 : Int64} {v2 : Int64} {v4 : Int32} {r0 : Int32} {σ σ0 : Mem}, F_Ty_consistent n v0 v2 v4 σ = some (r0, σ0) → KI l yTy_consistent cTy_consistent 5 (some .boolean) (2 + 1 * n) g [.long v0, .long v2, .int v4] σ r0 σ0 := by
  intro n
  induction n with
  | zero => intros; rename_i h; simp [F_Ty_consistent] at h
  | succ n ih =>
    intros
    rename_i h
    exact c_Ty_consistent l g hg (d0 := 2 + 1 * n) (Nat.le_add_right _ _) ih  h
theorem dTy_from_0 : decode cTy_from 0 = .ok (.lload_n 0, 1) := by decide +kernel
theorem dTy_from_1 : decode cTy_from 1 = .ok (.invokestatic 11, 3) := by decide +kernel
theorem dTy_from_4 : decode cTy_from 4 = .ok (.istore 4, 2) := by decide +kernel
theorem dTy_from_6 : decode cTy_from 6 = .ok (.iconst 1, 1) := by decide +kernel
theorem dTy_from_7 : decode cTy_from 7 = .ok (.iload 4, 2) := by decide +kernel
theorem dTy_from_9 : decode cTy_from 9 = .ok (.iadd, 1) := by decide +kernel
theorem dTy_from_10 : decode cTy_from 10 = .ok (.lload_n 2, 1) := by decide +kernel
theorem dTy_from_11 : decode cTy_from 11 = .ok (.invokestatic 11, 3) := by decide +kernel
theorem dTy_from_14 : decode cTy_from 14 = .ok (.iadd, 1) := by decide +kernel
theorem dTy_from_15 : decode cTy_from 15 = .ok (.bipush 27, 2) := by decide +kernel
theorem dTy_from_17 : decode cTy_from 17 = .ok (.if_icmp .le 5, 3) := by decide +kernel
theorem dTy_from_20 : decode cTy_from 20 = .ok (.lconst 1, 1) := by decide +kernel
theorem dTy_from_21 : decode cTy_from 21 = .ok (.lreturn, 1) := by decide +kernel
theorem dTy_from_22 : decode cTy_from 22 = .ok (.ldc2_w 15, 3) := by decide +kernel
theorem dTy_from_25 : decode cTy_from 25 = .ok (.lload_n 0, 1) := by decide +kernel
theorem dTy_from_26 : decode cTy_from 26 = .ok (.iconst 2, 1) := by decide +kernel
theorem dTy_from_27 : decode cTy_from 27 = .ok (.lshl, 1) := by decide +kernel
theorem dTy_from_28 : decode cTy_from 28 = .ok (.lor, 1) := by decide +kernel
theorem dTy_from_29 : decode cTy_from 29 = .ok (.lload_n 2, 1) := by decide +kernel
theorem dTy_from_30 : decode cTy_from 30 = .ok (.iconst 2, 1) := by decide +kernel
theorem dTy_from_31 : decode cTy_from 31 = .ok (.iconst 2, 1) := by decide +kernel
theorem dTy_from_32 : decode cTy_from 32 = .ok (.iload 4, 2) := by decide +kernel
theorem dTy_from_34 : decode cTy_from 34 = .ok (.imul, 1) := by decide +kernel
theorem dTy_from_35 : decode cTy_from 35 = .ok (.iadd, 1) := by decide +kernel
theorem dTy_from_36 : decode cTy_from 36 = .ok (.lshl, 1) := by decide +kernel
theorem dTy_from_37 : decode cTy_from 37 = .ok (.lor, 1) := by decide +kernel
theorem dTy_from_38 : decode cTy_from 38 = .ok (.lreturn, 1) := by decide +kernel
def f_Ty_from  (v0 : Int64) (v2 : Int64) (σ : Mem) : Option (Int64 × Mem) :=
  bn (f_Ty_symbols v0 σ) fun (r3 : Int32) (σ2 : Mem) =>
  bn (f_Ty_symbols v2 σ2) fun (r6 : Int32) (σ5 : Mem) =>
  if (((1 : Int32) + r3) + r6) ≤ (27 : Int32) then (
  some (((3 : Int64) ||| (v0 <<< ((2 : Int32).toInt64 &&& 63))) ||| (v2 <<< (((2 : Int32) + ((2 : Int32) * r3)).toInt64 &&& 63)), σ5))
  else (
  some ((1 : Int64), σ5))
set_option maxHeartbeats 4000000 in
set_option maxRecDepth 100000 in
theorem c_Ty_from (l : Launch) (g : Gw) (hg : wInj g) {v0 : Int64} {v2 : Int64} {r0 : Int64} {σ σ0 : Mem} (h : f_Ty_from v0 v2 σ = some (r0, σ0)) : KL l yTy_from cTy_from 5 (some .long) 1 g [.long v0, .long v2] σ r0 σ0 := by
  refine q_met g hg (own := "TermBench$Types") rfl rfl (Nat.le_of_ble_eq_true rfl) (fun p e s m args below meth c R Q cx hRk hr hQ H locs ls hP hS hl => ?_)
  have hx := cx.1
  have hb := cx.2.1
  have hown := cx.2.2.2.1
  have hts := cx.2.2.2.2.1
  have hl : lv_has ls 5 [(0, .long v0), (2, .long v2)] := hl
  unfold f_Ty_from at h
  refine lv_lload_n hx hb dTy_from_0 rfl (lv_at hl 0 rfl) ?_
  obtain ⟨r3, σ2, h1, h⟩ := bn_some h
  refine q_cSi (rest := []) (As := [.long v0]) cx hP hS hRk (c_Ty_symbols l g hg h1) Y_Ty_symbols S_Ty_symbols t_266 (by decide) rfl hl.1 rfl (Nat.le_of_ble_eq_true rfl) dTy_from_1 (fun H locs hP hS => ?_)
  refine lv_istore (lv' := [(4, .int r3), (0, .long v0), (2, .long v2)]) hx hb dTy_from_4 hl (Nat.le_of_ble_eq_true rfl) rfl (fun ls hl => ?_)
  refine lv_iconst (v := 1) hx hb dTy_from_6 (by decide) ?_
  refine lv_iload hx hb dTy_from_7 (lv_at hl 0 rfl) ?_
  refine lv_iadd hx hb dTy_from_9 ?_
  refine lv_lload_n hx hb dTy_from_10 rfl (lv_at hl 2 rfl) ?_
  obtain ⟨r6, σ5, h4, h⟩ := bn_some h
  refine q_cSi (rest := [.int ((1 : Int32) + r3)]) (As := [.long v2]) cx hP hS hRk (c_Ty_symbols l g hg h4) Y_Ty_symbols S_Ty_symbols t_266 (by decide) rfl hl.1 rfl (Nat.le_of_ble_eq_true rfl) dTy_from_11 (fun H locs hP hS => ?_)
  refine lv_iadd hx hb dTy_from_14 ?_
  refine lv_bipush (v := 27) hx hb dTy_from_15 (by decide) ?_
  refine lv_icmp_le (tgt := 22) hx hb dTy_from_17 (by decide) (fun hc => ?_) (fun hc => ?_)
  · replace h := if_t h hc
    refine lv_ldc2 (own := "TermBench$Types") (index := 15) (v := 3) hx hb hown (hts _ t_374) dTy_from_22 ?_
    refine lv_lload_n hx hb dTy_from_25 rfl (lv_at hl 1 rfl) ?_
    refine lv_iconst (v := 2) hx hb dTy_from_26 (by decide) ?_
    refine lv_lshl hx hb dTy_from_27 rfl ?_
    refine lv_lor hx hb dTy_from_28 ?_
    refine lv_lload_n hx hb dTy_from_29 rfl (lv_at hl 2 rfl) ?_
    refine lv_iconst (v := 2) hx hb dTy_from_30 (by decide) ?_
    refine lv_iconst (v := 2) hx hb dTy_from_31 (by decide) ?_
    refine lv_iload hx hb dTy_from_32 (lv_at hl 0 rfl) ?_
    refine lv_imul hx hb dTy_from_34 ?_
    refine lv_iadd hx hb dTy_from_35 ?_
    refine lv_lshl hx hb dTy_from_36 rfl ?_
    refine lv_lor hx hb dTy_from_37 ?_
    exact q_rl cx hr hP hS hQ h dTy_from_38
  · replace h := if_f h hc
    refine lv_lconst (v := 1) hx hb dTy_from_20 rfl ?_
    exact q_rl cx hr hP hS hQ h dTy_from_21
