/-! 27.model, by program: pure functions and contracts -/
theorem dMo_symbol_0 : decode cMo_symbol 0 = .ok (.iload_n 2, 1) := by decide +kernel
theorem dMo_symbol_1 : decode cMo_symbol 1 = .ok (.bipush 31, 2) := by decide +kernel
theorem dMo_symbol_3 : decode cMo_symbol 3 = .ok (.if_icmp .le 7, 3) := by decide +kernel
theorem dMo_symbol_6 : decode cMo_symbol 6 = .ok (.iconst 0, 1) := by decide +kernel
theorem dMo_symbol_7 : decode cMo_symbol 7 = .ok (.goto 13, 3) := by decide +kernel
theorem dMo_symbol_10 : decode cMo_symbol 10 = .ok (.lload_n 0, 1) := by decide +kernel
theorem dMo_symbol_11 : decode cMo_symbol 11 = .ok (.iconst 2, 1) := by decide +kernel
theorem dMo_symbol_12 : decode cMo_symbol 12 = .ok (.iload_n 2, 1) := by decide +kernel
theorem dMo_symbol_13 : decode cMo_symbol 13 = .ok (.imul, 1) := by decide +kernel
theorem dMo_symbol_14 : decode cMo_symbol 14 = .ok (.lshr, 1) := by decide +kernel
theorem dMo_symbol_15 : decode cMo_symbol 15 = .ok (.ldc2_w 99, 3) := by decide +kernel
theorem dMo_symbol_18 : decode cMo_symbol 18 = .ok (.land, 1) := by decide +kernel
theorem dMo_symbol_19 : decode cMo_symbol 19 = .ok (.l2i, 1) := by decide +kernel
theorem dMo_symbol_20 : decode cMo_symbol 20 = .ok (.ireturn, 1) := by decide +kernel
def f_Mo_symbol_J20  (v0 : Int64) (v2 : Int32) (u0 : Int32) (σ : Mem) : Option (Int32 × Mem) :=
  some (u0, σ)
def f_Mo_symbol  (v0 : Int64) (v2 : Int32) (σ : Mem) : Option (Int32 × Mem) :=
  if v2 ≤ (31 : Int32) then (
  f_Mo_symbol_J20 v0 v2 (((v0 >>> (((2 : Int32) * v2).toInt64 &&& 63)) &&& (3 : Int64)).toInt32) σ)
  else (
  f_Mo_symbol_J20 v0 v2 (0 : Int32) σ)
set_option maxHeartbeats 4000000 in
set_option maxRecDepth 100000 in
theorem c_Mo_symbol (l : Launch) (g : Gw) (hg : wInj g) {v0 : Int64} {v2 : Int32} {r0 : Int32} {σ σ0 : Mem} (h : f_Mo_symbol v0 v2 σ = some (r0, σ0)) : KI l yMo_symbol cMo_symbol 3 (some .int) 0 g [.long v0, .int v2] σ r0 σ0 := by
  refine q_met g hg (own := "TermBenchModel") rfl rfl (Nat.le_of_ble_eq_true rfl) (fun p e s m args below meth c R Q cx hRk hr hQ H locs ls hP hS hl => ?_)
  have hx := cx.1
  have hb := cx.2.1
  have hown := cx.2.2.2.1
  have hts := cx.2.2.2.2.1
  have hl : lv_has ls 3 [(0, .long v0), (2, .int v2)] := hl
  have J20 : ∀ (v0 : Int64) (v2 : Int32) (u0 : Int32) (σ : Mem), f_Mo_symbol_J20 v0 v2 u0 σ = some (r0, σ0) → ∀ (H : Heap) (locs : List Loc) (ls : Array Slot), lv_has ls 3 [(0, .long v0), (2, .int v2)] → Wd g σ H → va_S (wA g) s.heap H locs → W p l e R s m args below meth c H locs 0 0 Q (F0 m 20 ls [.int u0]) := by
    intro v0 v2 u0 σ h H locs ls hl hP hS
    unfold f_Mo_symbol_J20 at h
    exact q_ri cx hr rfl hP hS hQ h dMo_symbol_20
  unfold f_Mo_symbol at h
  refine lv_iload_n hx hb dMo_symbol_0 rfl (lv_at hl 1 rfl) ?_
  refine lv_bipush (v := 31) hx hb dMo_symbol_1 (by decide) ?_
  refine lv_icmp_le (tgt := 10) hx hb dMo_symbol_3 (by decide) (fun hc => ?_) (fun hc => ?_)
  · replace h := if_t h hc
    refine lv_lload_n hx hb dMo_symbol_10 rfl (lv_at hl 0 rfl) ?_
    refine lv_iconst (v := 2) hx hb dMo_symbol_11 (by decide) ?_
    refine lv_iload_n hx hb dMo_symbol_12 rfl (lv_at hl 1 rfl) ?_
    refine lv_imul hx hb dMo_symbol_13 ?_
    refine lv_lshr hx hb dMo_symbol_14 rfl ?_
    refine lv_ldc2 (own := "TermBenchModel") (index := 99) (v := 3) hx hb hown (hts _ t_737) dMo_symbol_15 ?_
    refine lv_land hx hb dMo_symbol_18 ?_
    refine lv_l2i hx hb dMo_symbol_19 rfl ?_
    exact J20 _ _ _ _ h _ _ _ (lv_sub hl [0, 1] rfl) hP hS
  · replace h := if_f h hc
    refine lv_iconst (v := 0) hx hb dMo_symbol_6 (by decide) ?_
    refine lv_goto (tgt := 20) hx hb dMo_symbol_7 (by decide) ?_
    exact J20 _ _ _ _ h _ _ _ (lv_sub hl [0, 1] rfl) hP hS
theorem dMo_behind_0 : decode cMo_behind 0 = .ok (.iconst 1, 1) := by decide +kernel
theorem dMo_behind_1 : decode cMo_behind 1 = .ok (.istore_n 3, 1) := by decide +kernel
theorem dMo_behind_2 : decode cMo_behind 2 = .ok (.iload_n 2, 1) := by decide +kernel
theorem dMo_behind_3 : decode cMo_behind 3 = .ok (.istore 4, 2) := by decide +kernel
theorem dMo_behind_5 : decode cMo_behind 5 = .ok (.iload_n 3, 1) := by decide +kernel
theorem dMo_behind_6 : decode cMo_behind 6 = .ok (.ifCond .le 46, 3) := by decide +kernel
theorem dMo_behind_9 : decode cMo_behind 9 = .ok (.lload_n 0, 1) := by decide +kernel
theorem dMo_behind_10 : decode cMo_behind 10 = .ok (.iload 4, 2) := by decide +kernel
theorem dMo_behind_12 : decode cMo_behind 12 = .ok (.invokestatic 101, 3) := by decide +kernel
theorem dMo_behind_15 : decode cMo_behind 15 = .ok (.istore 5, 2) := by decide +kernel
theorem dMo_behind_17 : decode cMo_behind 17 = .ok (.iload 5, 2) := by decide +kernel
theorem dMo_behind_19 : decode cMo_behind 19 = .ok (.ifCond .eq 10, 3) := by decide +kernel
theorem dMo_behind_22 : decode cMo_behind 22 = .ok (.iload 4, 2) := by decide +kernel
theorem dMo_behind_24 : decode cMo_behind 24 = .ok (.bipush 27, 2) := by decide +kernel
theorem dMo_behind_26 : decode cMo_behind 26 = .ok (.if_icmp .le 6, 3) := by decide +kernel
theorem dMo_behind_29 : decode cMo_behind 29 = .ok (.bipush 99, 2) := by decide +kernel
theorem dMo_behind_31 : decode cMo_behind 31 = .ok (.ireturn, 1) := by decide +kernel
theorem dMo_behind_32 : decode cMo_behind 32 = .ok (.iload_n 3, 1) := by decide +kernel
theorem dMo_behind_33 : decode cMo_behind 33 = .ok (.iload 5, 2) := by decide +kernel
theorem dMo_behind_35 : decode cMo_behind 35 = .ok (.iconst 3, 1) := by decide +kernel
theorem dMo_behind_36 : decode cMo_behind 36 = .ok (.if_icmp .ne 7, 3) := by decide +kernel
theorem dMo_behind_39 : decode cMo_behind 39 = .ok (.iconst 1, 1) := by decide +kernel
theorem dMo_behind_40 : decode cMo_behind 40 = .ok (.goto 4, 3) := by decide +kernel
theorem dMo_behind_43 : decode cMo_behind 43 = .ok (.iconst (-1), 1) := by decide +kernel
theorem dMo_behind_44 : decode cMo_behind 44 = .ok (.iadd, 1) := by decide +kernel
theorem dMo_behind_45 : decode cMo_behind 45 = .ok (.istore_n 3, 1) := by decide +kernel
theorem dMo_behind_46 : decode cMo_behind 46 = .ok (.iinc 4 1, 3) := by decide +kernel
theorem dMo_behind_49 : decode cMo_behind 49 = .ok (.goto (-44), 3) := by decide +kernel
theorem dMo_behind_52 : decode cMo_behind 52 = .ok (.iload 4, 2) := by decide +kernel
theorem dMo_behind_54 : decode cMo_behind 54 = .ok (.ireturn, 1) := by decide +kernel
def f_Mo_behind_J44  (v0 : Int64) (v2 : Int32) (v3 : Int32) (v4 : Int32) (v5 : Int32) (u0 : Int32) (u1 : Int32) (σ : Mem) : Option ((Int32 × Int32 × Mem) ⊕ (Int32 × Mem)) :=
  lt_ (u0 + u1) fun (x1 : Int32) =>
  lt_ (v4 + 1) fun (x2 : Int32) =>
  some (.inl (x1, x2, σ))
def f_Mo_behind_J29  (v0 : Int64) (v2 : Int32) (v3 : Int32) (v4 : Int32) (v5 : Int32) (σ : Mem) : Option (Int32 × Mem) :=
  some ((99 : Int32), σ)
def f_Mo_behind_L5  (v0 : Int64) (v2 : Int32) (v3 : Int32) (v4 : Int32) (σ : Mem) : Option ((Int32 × Int32 × Mem) ⊕ (Int32 × Mem)) :=
  if v3 ≤ 0 then (
  inrM (some (v4, σ)))
  else (
  bn (f_Mo_symbol v0 v4 σ) fun (r6 : Int32) (σ5 : Mem) =>
  if r6 = 0 then (
  inrM (f_Mo_behind_J29 v0 v2 v3 v4 r6 σ5))
  else (
  if v4 ≤ (27 : Int32) then (
  if r6 = (3 : Int32) then (
  f_Mo_behind_J44 v0 v2 v3 v4 r6 v3 (1 : Int32) σ5)
  else (
  f_Mo_behind_J44 v0 v2 v3 v4 r6 v3 ((-1) : Int32) σ5))
  else (
  inrM (f_Mo_behind_J29 v0 v2 v3 v4 r6 σ5))))
def f_Mo_behind  (v0 : Int64) (v2 : Int32) (σ : Mem) : Option (Int32 × Mem) :=
  lt_ (1 : Int32) fun (x9 : Int32) =>
  loopF (fun (q : (Int32 × Int32 × Mem)) => f_Mo_behind_L5 v0 v2 q.1 q.2.1 q.2.2) FU (x9, v2, σ)
set_option maxHeartbeats 4000000 in
set_option maxRecDepth 100000 in
theorem c_Mo_behind (l : Launch) (g : Gw) (hg : wInj g) {v0 : Int64} {v2 : Int32} {r0 : Int32} {σ σ0 : Mem} (h : f_Mo_behind v0 v2 σ = some (r0, σ0)) : KI l yMo_behind cMo_behind 6 (some .int) 1 g [.long v0, .int v2] σ r0 σ0 := by
  refine q_met g hg (own := "TermBenchModel") rfl rfl (Nat.le_of_ble_eq_true rfl) (fun p e s m args below meth c R Q cx hRk hr hQ H locs ls hP hS hl => ?_)
  have hx := cx.1
  have hb := cx.2.1
  have hown := cx.2.2.2.1
  have hts := cx.2.2.2.2.1
  have hl : lv_has ls 6 [(0, .long v0), (2, .int v2)] := hl
  have J29 : ∀ (v0 : Int64) (v2 : Int32) (v3 : Int32) (v4 : Int32) (v5 : Int32) (σ : Mem), f_Mo_behind_J29 v0 v2 v3 v4 v5 σ = some (r0, σ0) → ∀ (H : Heap) (locs : List Loc) (ls : Array Slot), lv_has ls 6 [(0, .long v0), (2, .int v2), (3, .int v3), (4, .int v4), (5, .int v5)] → Wd g σ H → va_S (wA g) s.heap H locs → W p l e R s m args below meth c H locs 0 0 Q (F0 m 29 ls []) := by
    intro v0 v2 v3 v4 v5 σ h H locs ls hl hP hS
    unfold f_Mo_behind_J29 at h
    refine lv_bipush (v := 99) hx hb dMo_behind_29 (by decide) ?_
    exact q_ri cx hr rfl hP hS hQ h dMo_behind_31
  unfold f_Mo_behind at h
  refine lv_iconst (v := 1) hx hb dMo_behind_0 (by decide) ?_
  obtain ⟨x9, ex9, h⟩ := lt_some h
  refine q_nmi ex9 ?_
  refine lv_istore_n (lv' := [(3, .int x9), (0, .long v0), (2, .int v2)]) hx hb dMo_behind_1 rfl hl (Nat.le_of_ble_eq_true rfl) rfl (fun ls hl => ?_)
  refine lv_iload_n hx hb dMo_behind_2 rfl (lv_at hl 2 rfl) ?_
  refine lv_istore (lv' := [(4, .int v2), (3, .int x9), (0, .long v0), (2, .int v2)]) hx hb dMo_behind_3 hl (Nat.le_of_ble_eq_true rfl) rfl (fun ls hl => ?_)
  have L5 : ∀ (n : Nat) (v0 : Int64) (v2 : Int32) (v3 : Int32) (v4 : Int32) (σ : Mem), loopF (fun (q : (Int32 × Int32 × Mem)) => f_Mo_behind_L5 v0 v2 q.1 q.2.1 q.2.2) n (v3, v4, σ) = some (r0, σ0) → ∀ (H : Heap) (locs : List Loc) (ls : Array Slot), lv_has ls 6 [(0, .long v0), (2, .int v2), (3, .int v3), (4, .int v4)] → Wd g σ H → va_S (wA g) s.heap H locs → W p l e R s m args below meth c H locs 0 0 Q (F0 m 5 ls []) := by
    intro n
    induction n with
    | zero => intro v0 v2 v3 v4 σ h; exact (loopF_zero h).elim
    | succ n ih5 =>
      intro v0 v2 v3 v4 σ h H locs ls hl hP hS
      obtain ⟨o5, h, K5, E5⟩ := loopF_succ h
      have h : f_Mo_behind_L5 v0 v2 v3 v4 σ = some o5 := h
      have J44 : ∀ (v3 : Int32) (v4 : Int32) (v5 : Int32) (u0 : Int32) (u1 : Int32) (σ : Mem), f_Mo_behind_J44 v0 v2 v3 v4 v5 u0 u1 σ = some o5 → ∀ (H : Heap) (locs : List Loc) (ls : Array Slot), lv_has ls 6 [(0, .long v0), (2, .int v2), (3, .int v3), (4, .int v4), (5, .int v5)] → Wd g σ H → va_S (wA g) s.heap H locs → W p l e R s m args below meth c H locs 0 0 Q (F0 m 44 ls [.int u1, .int u0]) := by
        intro v3 v4 v5 u0 u1 σ h H locs ls hl hP hS
        unfold f_Mo_behind_J44 at h
        refine lv_iadd hx hb dMo_behind_44 ?_
        obtain ⟨x1, ex1, h⟩ := lt_some h
        refine q_nmi ex1 ?_
        refine lv_istore_n (lv' := [(3, .int x1), (0, .long v0), (2, .int v2), (4, .int v4), (5, .int v5)]) hx hb dMo_behind_45 rfl hl (Nat.le_of_ble_eq_true rfl) rfl (fun ls hl => ?_)
        obtain ⟨x2, ex2, h⟩ := lt_some h
        refine lv_iinc (lv' := [(4, .int x2), (3, .int x1), (0, .long v0), (2, .int v2), (5, .int v5)]) hx hb dMo_behind_46 hl (k := 3) rfl (q_inc ex2 (by decide)) (Nat.le_of_ble_eq_true rfl) rfl (fun ls hl => ?_)
        refine lv_goto (tgt := 5) hx hb dMo_behind_49 (by decide) ?_
        exact ih5 _ _ _ _ _ (K5 _ (Option.some.inj h).symm) _ _ _ (lv_sub hl [2, 3, 1, 0] rfl) hP hS
      unfold f_Mo_behind_L5 at h
      refine lv_iload_n hx hb dMo_behind_5 rfl (lv_at hl 2 rfl) ?_
      refine lv_if_le (tgt := 52) hx hb dMo_behind_6 (by decide) (fun hc => ?_) (fun hc => ?_)
      · replace h := if_t h hc
        obtain ⟨z3, h, ez3⟩ := inrM_some h
        rw [E5 z3 ez3] at h
        refine lv_iload hx hb dMo_behind_52 (lv_at hl 3 rfl) ?_
        exact q_ri cx hr rfl hP hS hQ h dMo_behind_54
      · replace h := if_f h hc
        refine lv_lload_n hx hb dMo_behind_9 rfl (lv_at hl 0 rfl) ?_
        refine lv_iload hx hb dMo_behind_10 (lv_at hl 3 rfl) ?_
        obtain ⟨r6, σ5, h4, h⟩ := bn_some h
        refine q_cSi (rest := []) (As := [.long v0, .int v4]) cx hP hS hRk (c_Mo_symbol l g hg h4) Y_Mo_symbol S_Mo_symbol t_734 (by decide) rfl hl.1 rfl (Nat.le_of_ble_eq_true rfl) dMo_behind_12 (fun H locs hP hS => ?_)
        refine lv_istore (lv' := [(5, .int r6), (0, .long v0), (2, .int v2), (3, .int v3), (4, .int v4)]) hx hb dMo_behind_15 hl (Nat.le_of_ble_eq_true rfl) rfl (fun ls hl => ?_)
        refine lv_iload hx hb dMo_behind_17 (lv_at hl 0 rfl) ?_
        refine lv_if_eq (tgt := 29) hx hb dMo_behind_19 (by decide) (fun hc => ?_) (fun hc => ?_)
        · replace h := if_t h hc
          obtain ⟨z7, h, ez7⟩ := inrM_some h
          rw [E5 z7 ez7] at h
          exact J29 _ _ _ _ _ _ h _ _ _ (lv_sub hl [1, 2, 3, 4, 0] rfl) hP hS
        · replace h := if_f h hc
          refine lv_iload hx hb dMo_behind_22 (lv_at hl 4 rfl) ?_
          refine lv_bipush (v := 27) hx hb dMo_behind_24 (by decide) ?_
          refine lv_icmp_le (tgt := 32) hx hb dMo_behind_26 (by decide) (fun hc => ?_) (fun hc => ?_)
          · replace h := if_t h hc
            refine lv_iload_n hx hb dMo_behind_32 rfl (lv_at hl 3 rfl) ?_
            refine lv_iload hx hb dMo_behind_33 (lv_at hl 0 rfl) ?_
            refine lv_iconst (v := 3) hx hb dMo_behind_35 (by decide) ?_
            refine lv_icmp_ne (tgt := 43) hx hb dMo_behind_36 (by decide) (fun hc => ?_) (fun hc => ?_)
            · replace h := if_f h hc
              refine lv_iconst (v := (-1)) hx hb dMo_behind_43 (by decide) ?_
              exact J44 _ _ _ _ _ _ h _ _ _ (lv_sub hl [1, 2, 3, 4, 0] rfl) hP hS
            · replace h := if_t h hc
              refine lv_iconst (v := 1) hx hb dMo_behind_39 (by decide) ?_
              refine lv_goto (tgt := 44) hx hb dMo_behind_40 (by decide) ?_
              exact J44 _ _ _ _ _ _ h _ _ _ (lv_sub hl [1, 2, 3, 4, 0] rfl) hP hS
          · replace h := if_f h hc
            obtain ⟨z8, h, ez8⟩ := inrM_some h
            rw [E5 z8 ez8] at h
            exact J29 _ _ _ _ _ _ h _ _ _ (lv_sub hl [1, 2, 3, 4, 0] rfl) hP hS
  exact L5 _ _ _ _ _ _ h _ _ _ (lv_sub hl [2, 3, 1, 0] rfl) hP hS
theorem dMo_isType_0 : decode cMo_isType 0 = .ok (.lload_n 0, 1) := by decide +kernel
theorem dMo_isType_1 : decode cMo_isType 1 = .ok (.iconst 0, 1) := by decide +kernel
theorem dMo_isType_2 : decode cMo_isType 2 = .ok (.invokestatic 105, 3) := by decide +kernel
theorem dMo_isType_5 : decode cMo_isType 5 = .ok (.istore_n 2, 1) := by decide +kernel
theorem dMo_isType_6 : decode cMo_isType 6 = .ok (.iload_n 2, 1) := by decide +kernel
theorem dMo_isType_7 : decode cMo_isType 7 = .ok (.bipush 27, 2) := by decide +kernel
theorem dMo_isType_9 : decode cMo_isType 9 = .ok (.if_icmp .gt 17, 3) := by decide +kernel
theorem dMo_isType_12 : decode cMo_isType 12 = .ok (.lload_n 0, 1) := by decide +kernel
theorem dMo_isType_13 : decode cMo_isType 13 = .ok (.iconst 2, 1) := by decide +kernel
theorem dMo_isType_14 : decode cMo_isType 14 = .ok (.iload_n 2, 1) := by decide +kernel
theorem dMo_isType_15 : decode cMo_isType 15 = .ok (.imul, 1) := by decide +kernel
theorem dMo_isType_16 : decode cMo_isType 16 = .ok (.lshr, 1) := by decide +kernel
theorem dMo_isType_17 : decode cMo_isType 17 = .ok (.lconst 0, 1) := by decide +kernel
theorem dMo_isType_18 : decode cMo_isType 18 = .ok (.lcmp, 1) := by decide +kernel
theorem dMo_isType_19 : decode cMo_isType 19 = .ok (.ifCond .ne 7, 3) := by decide +kernel
theorem dMo_isType_22 : decode cMo_isType 22 = .ok (.iconst 1, 1) := by decide +kernel
theorem dMo_isType_23 : decode cMo_isType 23 = .ok (.goto 4, 3) := by decide +kernel
theorem dMo_isType_26 : decode cMo_isType 26 = .ok (.iconst 0, 1) := by decide +kernel
theorem dMo_isType_27 : decode cMo_isType 27 = .ok (.ireturn, 1) := by decide +kernel
def f_Mo_isType_J27  (v0 : Int64) (v2 : Int32) (u0 : Int32) (σ : Mem) : Option (Int32 × Mem) :=
  gd (isB u0) (some (u0, σ))
def f_Mo_isType_J26  (v0 : Int64) (v2 : Int32) (σ : Mem) : Option (Int32 × Mem) :=
  f_Mo_isType_J27 v0 v2 (0 : Int32) σ
def f_Mo_isType  (v0 : Int64) (σ : Mem) : Option (Int32 × Mem) :=
  bn (f_Mo_behind v0 (0 : Int32) σ) fun (r4 : Int32) (σ3 : Mem) =>
  if (27 : Int32) < r4 then (
  f_Mo_isType_J26 v0 r4 σ3)
  else (
  if (lg_cmp (v0 >>> (((2 : Int32) * r4).toInt64 &&& 63)) (0 : Int64)) = 0 then (
  f_Mo_isType_J27 v0 r4 (1 : Int32) σ3)
  else (
  f_Mo_isType_J26 v0 r4 σ3))
set_option maxHeartbeats 4000000 in
set_option maxRecDepth 100000 in
theorem c_Mo_isType (l : Launch) (g : Gw) (hg : wInj g) {v0 : Int64} {r0 : Int32} {σ σ0 : Mem} (h : f_Mo_isType v0 σ = some (r0, σ0)) : KI l yMo_isType cMo_isType 3 (some .boolean) 2 g [.long v0] σ r0 σ0 := by
  refine q_met g hg (own := "TermBenchModel") rfl rfl (Nat.le_of_ble_eq_true rfl) (fun p e s m args below meth c R Q cx hRk hr hQ H locs ls hP hS hl => ?_)
  have hx := cx.1
  have hb := cx.2.1
  have hown := cx.2.2.2.1
  have hts := cx.2.2.2.2.1
  have hl : lv_has ls 3 [(0, .long v0)] := hl
  have J27 : ∀ (v0 : Int64) (v2 : Int32) (u0 : Int32) (σ : Mem), f_Mo_isType_J27 v0 v2 u0 σ = some (r0, σ0) → ∀ (H : Heap) (locs : List Loc) (ls : Array Slot), lv_has ls 3 [(0, .long v0), (2, .int v2)] → Wd g σ H → va_S (wA g) s.heap H locs → W p l e R s m args below meth c H locs 0 0 Q (F0 m 27 ls [.int u0]) := by
    intro v0 v2 u0 σ h H locs ls hl hP hS
    unfold f_Mo_isType_J27 at h
    obtain ⟨b1, h⟩ := gd_some h
    exact q_ri cx hr (isB_n b1) hP hS hQ h dMo_isType_27
  have J26 : ∀ (v0 : Int64) (v2 : Int32) (σ : Mem), f_Mo_isType_J26 v0 v2 σ = some (r0, σ0) → ∀ (H : Heap) (locs : List Loc) (ls : Array Slot), lv_has ls 3 [(0, .long v0), (2, .int v2)] → Wd g σ H → va_S (wA g) s.heap H locs → W p l e R s m args below meth c H locs 0 0 Q (F0 m 26 ls []) := by
    intro v0 v2 σ h H locs ls hl hP hS
    unfold f_Mo_isType_J26 at h
    refine lv_iconst (v := 0) hx hb dMo_isType_26 (by decide) ?_
    exact J27 _ _ _ _ h _ _ _ (lv_sub hl [0, 1] rfl) hP hS
  unfold f_Mo_isType at h
  refine lv_lload_n hx hb dMo_isType_0 rfl (lv_at hl 0 rfl) ?_
  refine lv_iconst (v := 0) hx hb dMo_isType_1 (by decide) ?_
  obtain ⟨r4, σ3, h2, h⟩ := bn_some h
  refine q_cSi (rest := []) (As := [.long v0, .int (0 : Int32)]) cx hP hS hRk (c_Mo_behind l g hg h2) Y_Mo_behind S_Mo_behind t_731 (by decide) rfl hl.1 rfl (Nat.le_of_ble_eq_true rfl) dMo_isType_2 (fun H locs hP hS => ?_)
  refine lv_istore_n (lv' := [(2, .int r4), (0, .long v0)]) hx hb dMo_isType_5 rfl hl (Nat.le_of_ble_eq_true rfl) rfl (fun ls hl => ?_)
  refine lv_iload_n hx hb dMo_isType_6 rfl (lv_at hl 0 rfl) ?_
  refine lv_bipush (v := 27) hx hb dMo_isType_7 (by decide) ?_
  refine lv_icmp_gt (tgt := 26) hx hb dMo_isType_9 (by decide) (fun hc => ?_) (fun hc => ?_)
  · replace h := if_t h hc
    exact J26 _ _ _ h _ _ _ (lv_sub hl [1, 0] rfl) hP hS
  · replace h := if_f h hc
    refine lv_lload_n hx hb dMo_isType_12 rfl (lv_at hl 1 rfl) ?_
    refine lv_iconst (v := 2) hx hb dMo_isType_13 (by decide) ?_
    refine lv_iload_n hx hb dMo_isType_14 rfl (lv_at hl 0 rfl) ?_
    refine lv_imul hx hb dMo_isType_15 ?_
    refine lv_lshr hx hb dMo_isType_16 rfl ?_
    refine lv_lconst (v := 0) hx hb dMo_isType_17 rfl ?_
    refine W.lcmp hx hb dMo_isType_18 ?_
    refine lv_if_ne (tgt := 26) hx hb dMo_isType_19 (by decide) (fun hc => ?_) (fun hc => ?_)
    · replace h := if_f h hc
      exact J26 _ _ _ h _ _ _ (lv_sub hl [1, 0] rfl) hP hS
    · replace h := if_t h hc
      refine lv_iconst (v := 1) hx hb dMo_isType_22 (by decide) ?_
      refine lv_goto (tgt := 27) hx hb dMo_isType_23 (by decide) ?_
      exact J27 _ _ _ _ h _ _ _ (lv_sub hl [1, 0] rfl) hP hS
theorem dMo_cut_0 : decode cMo_cut 0 = .ok (.lload_n 0, 1) := by decide +kernel
theorem dMo_cut_1 : decode cMo_cut 1 = .ok (.iconst 2, 1) := by decide +kernel
theorem dMo_cut_2 : decode cMo_cut 2 = .ok (.iload_n 2, 1) := by decide +kernel
theorem dMo_cut_3 : decode cMo_cut 3 = .ok (.imul, 1) := by decide +kernel
theorem dMo_cut_4 : decode cMo_cut 4 = .ok (.lshr, 1) := by decide +kernel
theorem dMo_cut_5 : decode cMo_cut 5 = .ok (.lconst 1, 1) := by decide +kernel
theorem dMo_cut_6 : decode cMo_cut 6 = .ok (.iconst 2, 1) := by decide +kernel
theorem dMo_cut_7 : decode cMo_cut 7 = .ok (.iload_n 3, 1) := by decide +kernel
theorem dMo_cut_8 : decode cMo_cut 8 = .ok (.iload_n 2, 1) := by decide +kernel
theorem dMo_cut_9 : decode cMo_cut 9 = .ok (.isub, 1) := by decide +kernel
theorem dMo_cut_10 : decode cMo_cut 10 = .ok (.imul, 1) := by decide +kernel
theorem dMo_cut_11 : decode cMo_cut 11 = .ok (.lshl, 1) := by decide +kernel
theorem dMo_cut_12 : decode cMo_cut 12 = .ok (.lconst 1, 1) := by decide +kernel
theorem dMo_cut_13 : decode cMo_cut 13 = .ok (.lsub, 1) := by decide +kernel
theorem dMo_cut_14 : decode cMo_cut 14 = .ok (.land, 1) := by decide +kernel
theorem dMo_cut_15 : decode cMo_cut 15 = .ok (.lreturn, 1) := by decide +kernel
def f_Mo_cut  (v0 : Int64) (v2 : Int32) (v3 : Int32) (σ : Mem) : Option (Int64 × Mem) :=
  some ((v0 >>> (((2 : Int32) * v2).toInt64 &&& 63)) &&& (((1 : Int64) <<< (((2 : Int32) * (v3 - v2)).toInt64 &&& 63)) - (1 : Int64)), σ)
set_option maxHeartbeats 4000000 in
set_option maxRecDepth 100000 in
theorem c_Mo_cut (l : Launch) (g : Gw) (hg : wInj g) {v0 : Int64} {v2 : Int32} {v3 : Int32} {r0 : Int64} {σ σ0 : Mem} (h : f_Mo_cut v0 v2 v3 σ = some (r0, σ0)) : KL l yMo_cut cMo_cut 4 (some .long) 0 g [.long v0, .int v2, .int v3] σ r0 σ0 := by
  refine q_met g hg (own := "TermBenchModel") rfl rfl (Nat.le_of_ble_eq_true rfl) (fun p e s m args below meth c R Q cx hRk hr hQ H locs ls hP hS hl => ?_)
  have hx := cx.1
  have hb := cx.2.1
  have hown := cx.2.2.2.1
  have hts := cx.2.2.2.2.1
  have hl : lv_has ls 4 [(0, .long v0), (2, .int v2), (3, .int v3)] := hl
  unfold f_Mo_cut at h
  refine lv_lload_n hx hb dMo_cut_0 rfl (lv_at hl 0 rfl) ?_
  refine lv_iconst (v := 2) hx hb dMo_cut_1 (by decide) ?_
  refine lv_iload_n hx hb dMo_cut_2 rfl (lv_at hl 1 rfl) ?_
  refine lv_imul hx hb dMo_cut_3 ?_
  refine lv_lshr hx hb dMo_cut_4 rfl ?_
  refine lv_lconst (v := 1) hx hb dMo_cut_5 rfl ?_
  refine lv_iconst (v := 2) hx hb dMo_cut_6 (by decide) ?_
  refine lv_iload_n hx hb dMo_cut_7 rfl (lv_at hl 2 rfl) ?_
  refine lv_iload_n hx hb dMo_cut_8 rfl (lv_at hl 1 rfl) ?_
  refine lv_isub hx hb dMo_cut_9 ?_
  refine lv_imul hx hb dMo_cut_10 ?_
  refine lv_lshl hx hb dMo_cut_11 rfl ?_
  refine lv_lconst (v := 1) hx hb dMo_cut_12 rfl ?_
  refine lv_lsub hx hb dMo_cut_13 ?_
  refine lv_land hx hb dMo_cut_14 ?_
  exact q_rl cx hr hP hS hQ h dMo_cut_15
theorem dMo_isFrom_0 : decode cMo_isFrom 0 = .ok (.lload_n 0, 1) := by decide +kernel
theorem dMo_isFrom_1 : decode cMo_isFrom 1 = .ok (.ldc2_w 99, 3) := by decide +kernel
theorem dMo_isFrom_4 : decode cMo_isFrom 4 = .ok (.land, 1) := by decide +kernel
theorem dMo_isFrom_5 : decode cMo_isFrom 5 = .ok (.ldc2_w 99, 3) := by decide +kernel
theorem dMo_isFrom_8 : decode cMo_isFrom 8 = .ok (.lcmp, 1) := by decide +kernel
theorem dMo_isFrom_9 : decode cMo_isFrom 9 = .ok (.ifCond .ne 7, 3) := by decide +kernel
theorem dMo_isFrom_12 : decode cMo_isFrom 12 = .ok (.iconst 1, 1) := by decide +kernel
theorem dMo_isFrom_13 : decode cMo_isFrom 13 = .ok (.goto 4, 3) := by decide +kernel
theorem dMo_isFrom_16 : decode cMo_isFrom 16 = .ok (.iconst 0, 1) := by decide +kernel
theorem dMo_isFrom_17 : decode cMo_isFrom 17 = .ok (.ireturn, 1) := by decide +kernel
def f_Mo_isFrom_J17  (v0 : Int64) (u0 : Int32) (σ : Mem) : Option (Int32 × Mem) :=
  gd (isB u0) (some (u0, σ))
def f_Mo_isFrom  (v0 : Int64) (σ : Mem) : Option (Int32 × Mem) :=
  if (lg_cmp (v0 &&& (3 : Int64)) (3 : Int64)) = 0 then (
  f_Mo_isFrom_J17 v0 (1 : Int32) σ)
  else (
  f_Mo_isFrom_J17 v0 (0 : Int32) σ)
set_option maxHeartbeats 4000000 in
set_option maxRecDepth 100000 in
theorem c_Mo_isFrom (l : Launch) (g : Gw) (hg : wInj g) {v0 : Int64} {r0 : Int32} {σ σ0 : Mem} (h : f_Mo_isFrom v0 σ = some (r0, σ0)) : KI l yMo_isFrom cMo_isFrom 2 (some .boolean) 0 g [.long v0] σ r0 σ0 := by
  refine q_met g hg (own := "TermBenchModel") rfl rfl (Nat.le_of_ble_eq_true rfl) (fun p e s m args below meth c R Q cx hRk hr hQ H locs ls hP hS hl => ?_)
  have hx := cx.1
  have hb := cx.2.1
  have hown := cx.2.2.2.1
  have hts := cx.2.2.2.2.1
  have hl : lv_has ls 2 [(0, .long v0)] := hl
  have J17 : ∀ (v0 : Int64) (u0 : Int32) (σ : Mem), f_Mo_isFrom_J17 v0 u0 σ = some (r0, σ0) → ∀ (H : Heap) (locs : List Loc) (ls : Array Slot), lv_has ls 2 [(0, .long v0)] → Wd g σ H → va_S (wA g) s.heap H locs → W p l e R s m args below meth c H locs 0 0 Q (F0 m 17 ls [.int u0]) := by
    intro v0 u0 σ h H locs ls hl hP hS
    unfold f_Mo_isFrom_J17 at h
    obtain ⟨b1, h⟩ := gd_some h
    exact q_ri cx hr (isB_n b1) hP hS hQ h dMo_isFrom_17
  unfold f_Mo_isFrom at h
  refine lv_lload_n hx hb dMo_isFrom_0 rfl (lv_at hl 0 rfl) ?_
  refine lv_ldc2 (own := "TermBenchModel") (index := 99) (v := 3) hx hb hown (hts _ t_737) dMo_isFrom_1 ?_
  refine lv_land hx hb dMo_isFrom_4 ?_
  refine lv_ldc2 (own := "TermBenchModel") (index := 99) (v := 3) hx hb hown (hts _ t_737) dMo_isFrom_5 ?_
  refine W.lcmp hx hb dMo_isFrom_8 ?_
  refine lv_if_ne (tgt := 16) hx hb dMo_isFrom_9 (by decide) (fun hc => ?_) (fun hc => ?_)
  · replace h := if_f h hc
    refine lv_iconst (v := 0) hx hb dMo_isFrom_16 (by decide) ?_
    exact J17 _ _ _ h _ _ _ (lv_sub hl [0] rfl) hP hS
  · replace h := if_t h hc
    refine lv_iconst (v := 1) hx hb dMo_isFrom_12 (by decide) ?_
    refine lv_goto (tgt := 17) hx hb dMo_isFrom_13 (by decide) ?_
    exact J17 _ _ _ h _ _ _ (lv_sub hl [0] rfl) hP hS
theorem dMo_firstOf_0 : decode cMo_firstOf 0 = .ok (.lload_n 0, 1) := by decide +kernel
theorem dMo_firstOf_1 : decode cMo_firstOf 1 = .ok (.iconst 1, 1) := by decide +kernel
theorem dMo_firstOf_2 : decode cMo_firstOf 2 = .ok (.lload_n 0, 1) := by decide +kernel
theorem dMo_firstOf_3 : decode cMo_firstOf 3 = .ok (.iconst 1, 1) := by decide +kernel
theorem dMo_firstOf_4 : decode cMo_firstOf 4 = .ok (.invokestatic 105, 3) := by decide +kernel
theorem dMo_firstOf_7 : decode cMo_firstOf 7 = .ok (.invokestatic 108, 3) := by decide +kernel
theorem dMo_firstOf_10 : decode cMo_firstOf 10 = .ok (.lreturn, 1) := by decide +kernel
def f_Mo_firstOf  (v0 : Int64) (σ : Mem) : Option (Int64 × Mem) :=
  bn (f_Mo_behind v0 (1 : Int32) σ) fun (r3 : Int32) (σ2 : Mem) =>
  bn (f_Mo_cut v0 (1 : Int32) r3 σ2) fun (r6 : Int64) (σ5 : Mem) =>
  some (r6, σ5)
set_option maxHeartbeats 4000000 in
set_option maxRecDepth 100000 in
theorem c_Mo_firstOf (l : Launch) (g : Gw) (hg : wInj g) {v0 : Int64} {r0 : Int64} {σ σ0 : Mem} (h : f_Mo_firstOf v0 σ = some (r0, σ0)) : KL l yMo_firstOf cMo_firstOf 2 (some .long) 2 g [.long v0] σ r0 σ0 := by
  refine q_met g hg (own := "TermBenchModel") rfl rfl (Nat.le_of_ble_eq_true rfl) (fun p e s m args below meth c R Q cx hRk hr hQ H locs ls hP hS hl => ?_)
  have hx := cx.1
  have hb := cx.2.1
  have hown := cx.2.2.2.1
  have hts := cx.2.2.2.2.1
  have hl : lv_has ls 2 [(0, .long v0)] := hl
  unfold f_Mo_firstOf at h
  refine lv_lload_n hx hb dMo_firstOf_0 rfl (lv_at hl 0 rfl) ?_
  refine lv_iconst (v := 1) hx hb dMo_firstOf_1 (by decide) ?_
  refine lv_lload_n hx hb dMo_firstOf_2 rfl (lv_at hl 0 rfl) ?_
  refine lv_iconst (v := 1) hx hb dMo_firstOf_3 (by decide) ?_
  obtain ⟨r3, σ2, h1, h⟩ := bn_some h
  refine q_cSi (rest := [.int (1 : Int32), .long v0]) (As := [.long v0, .int (1 : Int32)]) cx hP hS hRk (c_Mo_behind l g hg h1) Y_Mo_behind S_Mo_behind t_731 (by decide) rfl hl.1 rfl (Nat.le_of_ble_eq_true rfl) dMo_firstOf_4 (fun H locs hP hS => ?_)
  obtain ⟨r6, σ5, h4, h⟩ := bn_some h
  refine q_cSl (rest := []) (As := [.long v0, .int (1 : Int32), .int r3]) cx hP hS hRk (c_Mo_cut l g hg h4) Y_Mo_cut S_Mo_cut t_833 (by decide) rfl hl.1 rfl (Nat.le_of_ble_eq_true rfl) dMo_firstOf_7 (fun H locs hP hS => ?_)
  exact q_rl cx hr hP hS hQ h dMo_firstOf_10
theorem dMo_secondOf_0 : decode cMo_secondOf 0 = .ok (.lload_n 0, 1) := by decide +kernel
theorem dMo_secondOf_1 : decode cMo_secondOf 1 = .ok (.iconst 1, 1) := by decide +kernel
theorem dMo_secondOf_2 : decode cMo_secondOf 2 = .ok (.invokestatic 105, 3) := by decide +kernel
theorem dMo_secondOf_5 : decode cMo_secondOf 5 = .ok (.istore_n 2, 1) := by decide +kernel
theorem dMo_secondOf_6 : decode cMo_secondOf 6 = .ok (.lload_n 0, 1) := by decide +kernel
theorem dMo_secondOf_7 : decode cMo_secondOf 7 = .ok (.iload_n 2, 1) := by decide +kernel
theorem dMo_secondOf_8 : decode cMo_secondOf 8 = .ok (.lload_n 0, 1) := by decide +kernel
theorem dMo_secondOf_9 : decode cMo_secondOf 9 = .ok (.iload_n 2, 1) := by decide +kernel
theorem dMo_secondOf_10 : decode cMo_secondOf 10 = .ok (.invokestatic 105, 3) := by decide +kernel
theorem dMo_secondOf_13 : decode cMo_secondOf 13 = .ok (.invokestatic 108, 3) := by decide +kernel
theorem dMo_secondOf_16 : decode cMo_secondOf 16 = .ok (.lreturn, 1) := by decide +kernel
def f_Mo_secondOf  (v0 : Int64) (σ : Mem) : Option (Int64 × Mem) :=
  bn (f_Mo_behind v0 (1 : Int32) σ) fun (r3 : Int32) (σ2 : Mem) =>
  bn (f_Mo_behind v0 r3 σ2) fun (r6 : Int32) (σ5 : Mem) =>
  bn (f_Mo_cut v0 r3 r6 σ5) fun (r9 : Int64) (σ8 : Mem) =>
  some (r9, σ8)
set_option maxHeartbeats 4000000 in
set_option maxRecDepth 100000 in
theorem c_Mo_secondOf (l : Launch) (g : Gw) (hg : wInj g) {v0 : Int64} {r0 : Int64} {σ σ0 : Mem} (h : f_Mo_secondOf v0 σ = some (r0, σ0)) : KL l yMo_secondOf cMo_secondOf 3 (some .long) 2 g [.long v0] σ r0 σ0 := by
  refine q_met g hg (own := "TermBenchModel") rfl rfl (Nat.le_of_ble_eq_true rfl) (fun p e s m args below meth c R Q cx hRk hr hQ H locs ls hP hS hl => ?_)
  have hx := cx.1
  have hb := cx.2.1
  have hown := cx.2.2.2.1
  have hts := cx.2.2.2.2.1
  have hl : lv_has ls 3 [(0, .long v0)] := hl
  unfold f_Mo_secondOf at h
  refine lv_lload_n hx hb dMo_secondOf_0 rfl (lv_at hl 0 rfl) ?_
  refine lv_iconst (v := 1) hx hb dMo_secondOf_1 (by decide) ?_
  obtain ⟨r3, σ2, h1, h⟩ := bn_some h
  refine q_cSi (rest := []) (As := [.long v0, .int (1 : Int32)]) cx hP hS hRk (c_Mo_behind l g hg h1) Y_Mo_behind S_Mo_behind t_731 (by decide) rfl hl.1 rfl (Nat.le_of_ble_eq_true rfl) dMo_secondOf_2 (fun H locs hP hS => ?_)
  refine lv_istore_n (lv' := [(2, .int r3), (0, .long v0)]) hx hb dMo_secondOf_5 rfl hl (Nat.le_of_ble_eq_true rfl) rfl (fun ls hl => ?_)
  refine lv_lload_n hx hb dMo_secondOf_6 rfl (lv_at hl 1 rfl) ?_
  refine lv_iload_n hx hb dMo_secondOf_7 rfl (lv_at hl 0 rfl) ?_
  refine lv_lload_n hx hb dMo_secondOf_8 rfl (lv_at hl 1 rfl) ?_
  refine lv_iload_n hx hb dMo_secondOf_9 rfl (lv_at hl 0 rfl) ?_
  obtain ⟨r6, σ5, h4, h⟩ := bn_some h
  refine q_cSi (rest := [.int r3, .long v0]) (As := [.long v0, .int r3]) cx hP hS hRk (c_Mo_behind l g hg h4) Y_Mo_behind S_Mo_behind t_731 (by decide) rfl hl.1 rfl (Nat.le_of_ble_eq_true rfl) dMo_secondOf_10 (fun H locs hP hS => ?_)
  obtain ⟨r9, σ8, h7, h⟩ := bn_some h
  refine q_cSl (rest := []) (As := [.long v0, .int r3, .int r6]) cx hP hS hRk (c_Mo_cut l g hg h7) Y_Mo_cut S_Mo_cut t_833 (by decide) rfl hl.1 rfl (Nat.le_of_ble_eq_true rfl) dMo_secondOf_13 (fun H locs hP hS => ?_)
  exact q_rl cx hr hP hS hQ h dMo_secondOf_16
theorem dMo_consistent_0 : decode cMo_consistent 0 = .ok (.iconst 0, 1) := by decide +kernel
theorem dMo_consistent_1 : decode cMo_consistent 1 = .ok (.istore 4, 2) := by decide +kernel
theorem dMo_consistent_3 : decode cMo_consistent 3 = .ok (.iconst 0, 1) := by decide +kernel
theorem dMo_consistent_4 : decode cMo_consistent 4 = .ok (.istore 5, 2) := by decide +kernel
theorem dMo_consistent_6 : decode cMo_consistent 6 = .ok (.iconst 1, 1) := by decide +kernel
theorem dMo_consistent_7 : decode cMo_consistent 7 = .ok (.istore 6, 2) := by decide +kernel
theorem dMo_consistent_9 : decode cMo_consistent 9 = .ok (.iload 6, 2) := by decide +kernel
theorem dMo_consistent_11 : decode cMo_consistent 11 = .ok (.ifCond .le 87, 3) := by decide +kernel
theorem dMo_consistent_14 : decode cMo_consistent 14 = .ok (.lload_n 0, 1) := by decide +kernel
theorem dMo_consistent_15 : decode cMo_consistent 15 = .ok (.iload 4, 2) := by decide +kernel
theorem dMo_consistent_17 : decode cMo_consistent 17 = .ok (.invokestatic 101, 3) := by decide +kernel
theorem dMo_consistent_20 : decode cMo_consistent 20 = .ok (.istore 7, 2) := by decide +kernel
theorem dMo_consistent_22 : decode cMo_consistent 22 = .ok (.lload_n 2, 1) := by decide +kernel
theorem dMo_consistent_23 : decode cMo_consistent 23 = .ok (.iload 5, 2) := by decide +kernel
theorem dMo_consistent_25 : decode cMo_consistent 25 = .ok (.invokestatic 101, 3) := by decide +kernel
theorem dMo_consistent_28 : decode cMo_consistent 28 = .ok (.istore 8, 2) := by decide +kernel
theorem dMo_consistent_30 : decode cMo_consistent 30 = .ok (.iload 7, 2) := by decide +kernel
theorem dMo_consistent_32 : decode cMo_consistent 32 = .ok (.iconst 1, 1) := by decide +kernel
theorem dMo_consistent_33 : decode cMo_consistent 33 = .ok (.if_icmp .eq 9, 3) := by decide +kernel
theorem dMo_consistent_36 : decode cMo_consistent 36 = .ok (.iload 8, 2) := by decide +kernel
theorem dMo_consistent_38 : decode cMo_consistent 38 = .ok (.iconst 1, 1) := by decide +kernel
theorem dMo_consistent_39 : decode cMo_consistent 39 = .ok (.if_icmp .ne 25, 3) := by decide +kernel
theorem dMo_consistent_42 : decode cMo_consistent 42 = .ok (.lload_n 0, 1) := by decide +kernel
theorem dMo_consistent_43 : decode cMo_consistent 43 = .ok (.iload 4, 2) := by decide +kernel
theorem dMo_consistent_45 : decode cMo_consistent 45 = .ok (.invokestatic 105, 3) := by decide +kernel
theorem dMo_consistent_48 : decode cMo_consistent 48 = .ok (.istore 4, 2) := by decide +kernel
theorem dMo_consistent_50 : decode cMo_consistent 50 = .ok (.lload_n 2, 1) := by decide +kernel
theorem dMo_consistent_51 : decode cMo_consistent 51 = .ok (.iload 5, 2) := by decide +kernel
theorem dMo_consistent_53 : decode cMo_consistent 53 = .ok (.invokestatic 105, 3) := by decide +kernel
theorem dMo_consistent_56 : decode cMo_consistent 56 = .ok (.istore 5, 2) := by decide +kernel
theorem dMo_consistent_58 : decode cMo_consistent 58 = .ok (.iinc 6 (-1), 3) := by decide +kernel
theorem dMo_consistent_61 : decode cMo_consistent 61 = .ok (.goto 34, 3) := by decide +kernel
theorem dMo_consistent_64 : decode cMo_consistent 64 = .ok (.iload 7, 2) := by decide +kernel
theorem dMo_consistent_66 : decode cMo_consistent 66 = .ok (.iload 8, 2) := by decide +kernel
theorem dMo_consistent_68 : decode cMo_consistent 68 = .ok (.if_icmp .eq 5, 3) := by decide +kernel
theorem dMo_consistent_71 : decode cMo_consistent 71 = .ok (.iconst 0, 1) := by decide +kernel
theorem dMo_consistent_72 : decode cMo_consistent 72 = .ok (.ireturn, 1) := by decide +kernel
theorem dMo_consistent_73 : decode cMo_consistent 73 = .ok (.iinc 4 1, 3) := by decide +kernel
theorem dMo_consistent_76 : decode cMo_consistent 76 = .ok (.iinc 5 1, 3) := by decide +kernel
theorem dMo_consistent_79 : decode cMo_consistent 79 = .ok (.iload 6, 2) := by decide +kernel
theorem dMo_consistent_81 : decode cMo_consistent 81 = .ok (.iload 7, 2) := by decide +kernel
theorem dMo_consistent_83 : decode cMo_consistent 83 = .ok (.iconst 3, 1) := by decide +kernel
theorem dMo_consistent_84 : decode cMo_consistent 84 = .ok (.if_icmp .ne 7, 3) := by decide +kernel
theorem dMo_consistent_87 : decode cMo_consistent 87 = .ok (.iconst 1, 1) := by decide +kernel
theorem dMo_consistent_88 : decode cMo_consistent 88 = .ok (.goto 4, 3) := by decide +kernel
theorem dMo_consistent_91 : decode cMo_consistent 91 = .ok (.iconst (-1), 1) := by decide +kernel
theorem dMo_consistent_92 : decode cMo_consistent 92 = .ok (.iadd, 1) := by decide +kernel
theorem dMo_consistent_93 : decode cMo_consistent 93 = .ok (.istore 6, 2) := by decide +kernel
theorem dMo_consistent_95 : decode cMo_consistent 95 = .ok (.goto (-86), 3) := by decide +kernel
theorem dMo_consistent_98 : decode cMo_consistent 98 = .ok (.iconst 1, 1) := by decide +kernel
theorem dMo_consistent_99 : decode cMo_consistent 99 = .ok (.ireturn, 1) := by decide +kernel
def f_Mo_consistent_J95  (v0 : Int64) (v2 : Int64) (v4 : Int32) (v5 : Int32) (v6 : Int32) (v7 : Int32) (v8 : Int32) (σ : Mem) : Option ((Int32 × Int32 × Int32 × Mem) ⊕ (Int32 × Mem)) :=
  some (.inl (v4, v5, v6, σ))
def f_Mo_consistent_J92  (v0 : Int64) (v2 : Int64) (v4 : Int32) (v5 : Int32) (v6 : Int32) (v7 : Int32) (v8 : Int32) (u0 : Int32) (u1 : Int32) (σ : Mem) : Option ((Int32 × Int32 × Int32 × Mem) ⊕ (Int32 × Mem)) :=
  lt_ (u0 + u1) fun (x1 : Int32) =>
  f_Mo_consistent_J95 v0 v2 v4 v5 x1 v7 v8 σ
def f_Mo_consistent_J42  (v0 : Int64) (v2 : Int64) (v4 : Int32) (v5 : Int32) (v6 : Int32) (v7 : Int32) (v8 : Int32) (σ : Mem) : Option ((Int32 × Int32 × Int32 × Mem) ⊕ (Int32 × Mem)) :=
  bn (f_Mo_behind v0 v4 σ) fun (r4 : Int32) (σ3 : Mem) =>
  bn (f_Mo_behind v2 v5 σ3) fun (r7 : Int32) (σ6 : Mem) =>
  lt_ (v6 + (-1)) fun (x8 : Int32) =>
  f_Mo_consistent_J95 v0 v2 r4 r7 x8 v7 v8 σ6
def f_Mo_consistent_L9  (v0 : Int64) (v2 : Int64) (v4 : Int32) (v5 : Int32) (v6 : Int32) (σ : Mem) : Option ((Int32 × Int32 × Int32 × Mem) ⊕ (Int32 × Mem)) :=
  if v6 ≤ 0 then (
  inrM (some ((1 : Int32), σ)))
  else (
  bn (f_Mo_symbol v0 v4 σ) fun (r12 : Int32) (σ11 : Mem) =>
  bn (f_Mo_symbol v2 v5 σ11) fun (r15 : Int32) (σ14 : Mem) =>
  if r12 = (1 : Int32) then (
  f_Mo_consistent_J42 v0 v2 v4 v5 v6 r12 r15 σ14)
  else (
  if r15 = (1 : Int32) then (
  f_Mo_consistent_J42 v0 v2 v4 v5 v6 r12 r15 σ14)
  else (
  if r12 = r15 then (
  lt_ (v4 + 1) fun (x16 : Int32) =>
  lt_ (v5 + 1) fun (x17 : Int32) =>
  if r12 = (3 : Int32) then (
  f_Mo_consistent_J92 v0 v2 x16 x17 v6 r12 r15 v6 (1 : Int32) σ14)
  else (
  f_Mo_consistent_J92 v0 v2 x16 x17 v6 r12 r15 v6 ((-1) : Int32) σ14))
  else (
  inrM (some ((0 : Int32), σ14))))))
def f_Mo_consistent  (v0 : Int64) (v2 : Int64) (σ : Mem) : Option (Int32 × Mem) :=
  lt_ (0 : Int32) fun (x19 : Int32) =>
  lt_ (0 : Int32) fun (x20 : Int32) =>
  lt_ (1 : Int32) fun (x21 : Int32) =>
  loopF (fun (q : (Int32 × Int32 × Int32 × Mem)) => f_Mo_consistent_L9 v0 v2 q.1 q.2.1 q.2.2.1 q.2.2.2) FU (x19, x20, x21, σ)
set_option maxHeartbeats 4000000 in
set_option maxRecDepth 100000 in
theorem c_Mo_consistent (l : Launch) (g : Gw) (hg : wInj g) {v0 : Int64} {v2 : Int64} {r0 : Int32} {σ σ0 : Mem} (h : f_Mo_consistent v0 v2 σ = some (r0, σ0)) : KI l yMo_consistent cMo_consistent 9 (some .boolean) 2 g [.long v0, .long v2] σ r0 σ0 := by
  refine q_met g hg (own := "TermBenchModel") rfl rfl (Nat.le_of_ble_eq_true rfl) (fun p e s m args below meth c R Q cx hRk hr hQ H locs ls hP hS hl => ?_)
  have hx := cx.1
  have hb := cx.2.1
  have hown := cx.2.2.2.1
  have hts := cx.2.2.2.2.1
  have hl : lv_has ls 9 [(0, .long v0), (2, .long v2)] := hl
  unfold f_Mo_consistent at h
  refine lv_iconst (v := 0) hx hb dMo_consistent_0 (by decide) ?_
  obtain ⟨x19, ex19, h⟩ := lt_some h
  refine q_nmi ex19 ?_
  refine lv_istore (lv' := [(4, .int x19), (0, .long v0), (2, .long v2)]) hx hb dMo_consistent_1 hl (Nat.le_of_ble_eq_true rfl) rfl (fun ls hl => ?_)
  refine lv_iconst (v := 0) hx hb dMo_consistent_3 (by decide) ?_
  obtain ⟨x20, ex20, h⟩ := lt_some h
  refine q_nmi ex20 ?_
  refine lv_istore (lv' := [(5, .int x20), (4, .int x19), (0, .long v0), (2, .long v2)]) hx hb dMo_consistent_4 hl (Nat.le_of_ble_eq_true rfl) rfl (fun ls hl => ?_)
  refine lv_iconst (v := 1) hx hb dMo_consistent_6 (by decide) ?_
  obtain ⟨x21, ex21, h⟩ := lt_some h
  refine q_nmi ex21 ?_
  refine lv_istore (lv' := [(6, .int x21), (5, .int x20), (4, .int x19), (0, .long v0), (2, .long v2)]) hx hb dMo_consistent_7 hl (Nat.le_of_ble_eq_true rfl) rfl (fun ls hl => ?_)
  have L9 : ∀ (n : Nat) (v0 : Int64) (v2 : Int64) (v4 : Int32) (v5 : Int32) (v6 : Int32) (σ : Mem), loopF (fun (q : (Int32 × Int32 × Int32 × Mem)) => f_Mo_consistent_L9 v0 v2 q.1 q.2.1 q.2.2.1 q.2.2.2) n (v4, v5, v6, σ) = some (r0, σ0) → ∀ (H : Heap) (locs : List Loc) (ls : Array Slot), lv_has ls 9 [(0, .long v0), (2, .long v2), (4, .int v4), (5, .int v5), (6, .int v6)] → Wd g σ H → va_S (wA g) s.heap H locs → W p l e R s m args below meth c H locs 0 0 Q (F0 m 9 ls []) := by
    intro n
    induction n with
    | zero => intro v0 v2 v4 v5 v6 σ h; exact (loopF_zero h).elim
    | succ n ih9 =>
      intro v0 v2 v4 v5 v6 σ h H locs ls hl hP hS
      obtain ⟨o9, h, K9, E9⟩ := loopF_succ h
      have h : f_Mo_consistent_L9 v0 v2 v4 v5 v6 σ = some o9 := h
      have J95 : ∀ (v4 : Int32) (v5 : Int32) (v6 : Int32) (v7 : Int32) (v8 : Int32) (σ : Mem), f_Mo_consistent_J95 v0 v2 v4 v5 v6 v7 v8 σ = some o9 → ∀ (H : Heap) (locs : List Loc) (ls : Array Slot), lv_has ls 9 [(0, .long v0), (2, .long v2), (4, .int v4), (5, .int v5), (6, .int v6), (7, .int v7), (8, .int v8)] → Wd g σ H → va_S (wA g) s.heap H locs → W p l e R s m args below meth c H locs 0 0 Q (F0 m 95 ls []) := by
        intro v4 v5 v6 v7 v8 σ h H locs ls hl hP hS
        unfold f_Mo_consistent_J95 at h
        refine lv_goto (tgt := 9) hx hb dMo_consistent_95 (by decide) ?_
        exact ih9 _ _ _ _ _ _ (K9 _ (Option.some.inj h).symm) _ _ _ (lv_sub hl [0, 1, 2, 3, 4] rfl) hP hS
      have J92 : ∀ (v4 : Int32) (v5 : Int32) (v6 : Int32) (v7 : Int32) (v8 : Int32) (u0 : Int32) (u1 : Int32) (σ : Mem), f_Mo_consistent_J92 v0 v2 v4 v5 v6 v7 v8 u0 u1 σ = some o9 → ∀ (H : Heap) (locs : List Loc) (ls : Array Slot), lv_has ls 9 [(0, .long v0), (2, .long v2), (4, .int v4), (5, .int v5), (6, .int v6), (7, .int v7), (8, .int v8)] → Wd g σ H → va_S (wA g) s.heap H locs → W p l e R s m args below meth c H locs 0 0 Q (F0 m 92 ls [.int u1, .int u0]) := by
        intro v4 v5 v6 v7 v8 u0 u1 σ h H locs ls hl hP hS
        unfold f_Mo_consistent_J92 at h
        refine lv_iadd hx hb dMo_consistent_92 ?_
        obtain ⟨x1, ex1, h⟩ := lt_some h
        refine q_nmi ex1 ?_
        refine lv_istore (lv' := [(6, .int x1), (0, .long v0), (2, .long v2), (4, .int v4), (5, .int v5), (7, .int v7), (8, .int v8)]) hx hb dMo_consistent_93 hl (Nat.le_of_ble_eq_true rfl) rfl (fun ls hl => ?_)
        exact J95 _ _ _ _ _ _ h _ _ _ (lv_sub hl [1, 2, 3, 4, 0, 5, 6] rfl) hP hS
      have J42 : ∀ (v4 : Int32) (v5 : Int32) (v6 : Int32) (v7 : Int32) (v8 : Int32) (σ : Mem), f_Mo_consistent_J42 v0 v2 v4 v5 v6 v7 v8 σ = some o9 → ∀ (H : Heap) (locs : List Loc) (ls : Array Slot), lv_has ls 9 [(0, .long v0), (2, .long v2), (4, .int v4), (5, .int v5), (6, .int v6), (7, .int v7), (8, .int v8)] → Wd g σ H → va_S (wA g) s.heap H locs → W p l e R s m args below meth c H locs 0 0 Q (F0 m 42 ls []) := by
        intro v4 v5 v6 v7 v8 σ h H locs ls hl hP hS
        unfold f_Mo_consistent_J42 at h
        refine lv_lload_n hx hb dMo_consistent_42 rfl (lv_at hl 0 rfl) ?_
        refine lv_iload hx hb dMo_consistent_43 (lv_at hl 2 rfl) ?_
        obtain ⟨r4, σ3, h2, h⟩ := bn_some h
        refine q_cSi (rest := []) (As := [.long v0, .int v4]) cx hP hS hRk (c_Mo_behind l g hg h2) Y_Mo_behind S_Mo_behind t_731 (by decide) rfl hl.1 rfl (Nat.le_of_ble_eq_true rfl) dMo_consistent_45 (fun H locs hP hS => ?_)
        refine lv_istore (lv' := [(4, .int r4), (0, .long v0), (2, .long v2), (5, .int v5), (6, .int v6), (7, .int v7), (8, .int v8)]) hx hb dMo_consistent_48 hl (Nat.le_of_ble_eq_true rfl) rfl (fun ls hl => ?_)
        refine lv_lload_n hx hb dMo_consistent_50 rfl (lv_at hl 2 rfl) ?_
        refine lv_iload hx hb dMo_consistent_51 (lv_at hl 3 rfl) ?_
        obtain ⟨r7, σ6, h5, h⟩ := bn_some h
        refine q_cSi (rest := []) (As := [.long v2, .int v5]) cx hP hS hRk (c_Mo_behind l g hg h5) Y_Mo_behind S_Mo_behind t_731 (by decide) rfl hl.1 rfl (Nat.le_of_ble_eq_true rfl) dMo_consistent_53 (fun H locs hP hS => ?_)
        refine lv_istore (lv' := [(5, .int r7), (4, .int r4), (0, .long v0), (2, .long v2), (6, .int v6), (7, .int v7), (8, .int v8)]) hx hb dMo_consistent_56 hl (Nat.le_of_ble_eq_true rfl) rfl (fun ls hl => ?_)
        obtain ⟨x8, ex8, h⟩ := lt_some h
        refine lv_iinc (lv' := [(6, .int x8), (5, .int r7), (4, .int r4), (0, .long v0), (2, .long v2), (7, .int v7), (8, .int v8)]) hx hb dMo_consistent_58 hl (k := 4) rfl (q_inc ex8 (by decide)) (Nat.le_of_ble_eq_true rfl) rfl (fun ls hl => ?_)
        refine lv_goto (tgt := 95) hx hb dMo_consistent_61 (by decide) ?_
        exact J95 _ _ _ _ _ _ h _ _ _ (lv_sub hl [3, 4, 2, 1, 0, 5, 6] rfl) hP hS
      unfold f_Mo_consistent_L9 at h
      refine lv_iload hx hb dMo_consistent_9 (lv_at hl 4 rfl) ?_
      refine lv_if_le (tgt := 98) hx hb dMo_consistent_11 (by decide) (fun hc => ?_) (fun hc => ?_)
      · replace h := if_t h hc
        obtain ⟨z9, h, ez9⟩ := inrM_some h
        rw [E9 z9 ez9] at h
        refine lv_iconst (v := 1) hx hb dMo_consistent_98 (by decide) ?_
        exact q_ri cx hr rfl hP hS hQ h dMo_consistent_99
      · replace h := if_f h hc
        refine lv_lload_n hx hb dMo_consistent_14 rfl (lv_at hl 0 rfl) ?_
        refine lv_iload hx hb dMo_consistent_15 (lv_at hl 2 rfl) ?_
        obtain ⟨r12, σ11, h10, h⟩ := bn_some h
        refine q_cSi (rest := []) (As := [.long v0, .int v4]) cx hP hS hRk (c_Mo_symbol l g hg h10) Y_Mo_symbol S_Mo_symbol t_734 (by decide) rfl hl.1 rfl (Nat.le_of_ble_eq_true rfl) dMo_consistent_17 (fun H locs hP hS => ?_)
        refine lv_istore (lv' := [(7, .int r12), (0, .long v0), (2, .long v2), (4, .int v4), (5, .int v5), (6, .int v6)]) hx hb dMo_consistent_20 hl (Nat.le_of_ble_eq_true rfl) rfl (fun ls hl => ?_)
        refine lv_lload_n hx hb dMo_consistent_22 rfl (lv_at hl 2 rfl) ?_
        refine lv_iload hx hb dMo_consistent_23 (lv_at hl 4 rfl) ?_
        obtain ⟨r15, σ14, h13, h⟩ := bn_some h
        refine q_cSi (rest := []) (As := [.long v2, .int v5]) cx hP hS hRk (c_Mo_symbol l g hg h13) Y_Mo_symbol S_Mo_symbol t_734 (by decide) rfl hl.1 rfl (Nat.le_of_ble_eq_true rfl) dMo_consistent_25 (fun H locs hP hS => ?_)
        refine lv_istore (lv' := [(8, .int r15), (7, .int r12), (0, .long v0), (2, .long v2), (4, .int v4), (5, .int v5), (6, .int v6)]) hx hb dMo_consistent_28 hl (Nat.le_of_ble_eq_true rfl) rfl (fun ls hl => ?_)
        refine lv_iload hx hb dMo_consistent_30 (lv_at hl 1 rfl) ?_
        refine lv_iconst (v := 1) hx hb dMo_consistent_32 (by decide) ?_
        refine lv_icmp_eq (tgt := 42) hx hb dMo_consistent_33 (by decide) (fun hc => ?_) (fun hc => ?_)
        · replace h := if_t h hc
          exact J42 _ _ _ _ _ _ h _ _ _ (lv_sub hl [2, 3, 4, 5, 6, 1, 0] rfl) hP hS
        · replace h := if_f h hc
          refine lv_iload hx hb dMo_consistent_36 (lv_at hl 0 rfl) ?_
          refine lv_iconst (v := 1) hx hb dMo_consistent_38 (by decide) ?_
          refine lv_icmp_ne (tgt := 64) hx hb dMo_consistent_39 (by decide) (fun hc => ?_) (fun hc => ?_)
          · replace h := if_f h hc
            refine lv_iload hx hb dMo_consistent_64 (lv_at hl 1 rfl) ?_
            refine lv_iload hx hb dMo_consistent_66 (lv_at hl 0 rfl) ?_
            refine lv_icmp_eq (tgt := 73) hx hb dMo_consistent_68 (by decide) (fun hc => ?_) (fun hc => ?_)
            · replace h := if_t h hc
              obtain ⟨x16, ex16, h⟩ := lt_some h
              refine lv_iinc (lv' := [(4, .int x16), (8, .int r15), (7, .int r12), (0, .long v0), (2, .long v2), (5, .int v5), (6, .int v6)]) hx hb dMo_consistent_73 hl (k := 4) rfl (q_inc ex16 (by decide)) (Nat.le_of_ble_eq_true rfl) rfl (fun ls hl => ?_)
              obtain ⟨x17, ex17, h⟩ := lt_some h
              refine lv_iinc (lv' := [(5, .int x17), (4, .int x16), (8, .int r15), (7, .int r12), (0, .long v0), (2, .long v2), (6, .int v6)]) hx hb dMo_consistent_76 hl (k := 5) rfl (q_inc ex17 (by decide)) (Nat.le_of_ble_eq_true rfl) rfl (fun ls hl => ?_)
              refine lv_iload hx hb dMo_consistent_79 (lv_at hl 6 rfl) ?_
              refine lv_iload hx hb dMo_consistent_81 (lv_at hl 3 rfl) ?_
              refine lv_iconst (v := 3) hx hb dMo_consistent_83 (by decide) ?_
              refine lv_icmp_ne (tgt := 91) hx hb dMo_consistent_84 (by decide) (fun hc => ?_) (fun hc => ?_)
              · replace h := if_f h hc
                refine lv_iconst (v := (-1)) hx hb dMo_consistent_91 (by decide) ?_
                exact J92 _ _ _ _ _ _ _ _ h _ _ _ (lv_sub hl [4, 5, 1, 0, 6, 3, 2] rfl) hP hS
              · replace h := if_t h hc
                refine lv_iconst (v := 1) hx hb dMo_consistent_87 (by decide) ?_
                refine lv_goto (tgt := 92) hx hb dMo_consistent_88 (by decide) ?_
                exact J92 _ _ _ _ _ _ _ _ h _ _ _ (lv_sub hl [4, 5, 1, 0, 6, 3, 2] rfl) hP hS
            · replace h := if_f h hc
              obtain ⟨z18, h, ez18⟩ := inrM_some h
              rw [E9 z18 ez18] at h
              refine lv_iconst (v := 0) hx hb dMo_consistent_71 (by decide) ?_
              exact q_ri cx hr rfl hP hS hQ h dMo_consistent_72
          · replace h := if_t h hc
            exact J42 _ _ _ _ _ _ h _ _ _ (lv_sub hl [2, 3, 4, 5, 6, 1, 0] rfl) hP hS
  exact L9 _ _ _ _ _ _ _ h _ _ _ (lv_sub hl [3, 4, 2, 1, 0] rfl) hP hS
theorem dMo_from_0 : decode cMo_from 0 = .ok (.lload_n 0, 1) := by decide +kernel
theorem dMo_from_1 : decode cMo_from 1 = .ok (.iconst 0, 1) := by decide +kernel
theorem dMo_from_2 : decode cMo_from 2 = .ok (.invokestatic 105, 3) := by decide +kernel
theorem dMo_from_5 : decode cMo_from 5 = .ok (.istore 4, 2) := by decide +kernel
theorem dMo_from_7 : decode cMo_from 7 = .ok (.lload_n 2, 1) := by decide +kernel
theorem dMo_from_8 : decode cMo_from 8 = .ok (.iconst 0, 1) := by decide +kernel
theorem dMo_from_9 : decode cMo_from 9 = .ok (.invokestatic 105, 3) := by decide +kernel
theorem dMo_from_12 : decode cMo_from 12 = .ok (.istore 5, 2) := by decide +kernel
theorem dMo_from_14 : decode cMo_from 14 = .ok (.iconst 1, 1) := by decide +kernel
theorem dMo_from_15 : decode cMo_from 15 = .ok (.iload 4, 2) := by decide +kernel
theorem dMo_from_17 : decode cMo_from 17 = .ok (.iadd, 1) := by decide +kernel
theorem dMo_from_18 : decode cMo_from 18 = .ok (.iload 5, 2) := by decide +kernel
theorem dMo_from_20 : decode cMo_from 20 = .ok (.iadd, 1) := by decide +kernel
theorem dMo_from_21 : decode cMo_from 21 = .ok (.bipush 27, 2) := by decide +kernel
theorem dMo_from_23 : decode cMo_from 23 = .ok (.if_icmp .le 7, 3) := by decide +kernel
theorem dMo_from_26 : decode cMo_from 26 = .ok (.lconst 1, 1) := by decide +kernel
theorem dMo_from_27 : decode cMo_from 27 = .ok (.goto 19, 3) := by decide +kernel
theorem dMo_from_30 : decode cMo_from 30 = .ok (.ldc2_w 99, 3) := by decide +kernel
theorem dMo_from_33 : decode cMo_from 33 = .ok (.lload_n 0, 1) := by decide +kernel
theorem dMo_from_34 : decode cMo_from 34 = .ok (.iconst 2, 1) := by decide +kernel
theorem dMo_from_35 : decode cMo_from 35 = .ok (.lshl, 1) := by decide +kernel
theorem dMo_from_36 : decode cMo_from 36 = .ok (.lor, 1) := by decide +kernel
theorem dMo_from_37 : decode cMo_from 37 = .ok (.lload_n 2, 1) := by decide +kernel
theorem dMo_from_38 : decode cMo_from 38 = .ok (.iconst 2, 1) := by decide +kernel
theorem dMo_from_39 : decode cMo_from 39 = .ok (.iconst 2, 1) := by decide +kernel
theorem dMo_from_40 : decode cMo_from 40 = .ok (.iload 4, 2) := by decide +kernel
theorem dMo_from_42 : decode cMo_from 42 = .ok (.imul, 1) := by decide +kernel
theorem dMo_from_43 : decode cMo_from 43 = .ok (.iadd, 1) := by decide +kernel
theorem dMo_from_44 : decode cMo_from 44 = .ok (.lshl, 1) := by decide +kernel
theorem dMo_from_45 : decode cMo_from 45 = .ok (.lor, 1) := by decide +kernel
theorem dMo_from_46 : decode cMo_from 46 = .ok (.lreturn, 1) := by decide +kernel
def f_Mo_from_J46  (v0 : Int64) (v2 : Int64) (v4 : Int32) (v5 : Int32) (u0 : Int64) (σ : Mem) : Option (Int64 × Mem) :=
  some (u0, σ)
def f_Mo_from  (v0 : Int64) (v2 : Int64) (σ : Mem) : Option (Int64 × Mem) :=
  bn (f_Mo_behind v0 (0 : Int32) σ) fun (r3 : Int32) (σ2 : Mem) =>
  bn (f_Mo_behind v2 (0 : Int32) σ2) fun (r6 : Int32) (σ5 : Mem) =>
  if (((1 : Int32) + r3) + r6) ≤ (27 : Int32) then (
  f_Mo_from_J46 v0 v2 r3 r6 (((3 : Int64) ||| (v0 <<< ((2 : Int32).toInt64 &&& 63))) ||| (v2 <<< (((2 : Int32) + ((2 : Int32) * r3)).toInt64 &&& 63))) σ5)
  else (
  f_Mo_from_J46 v0 v2 r3 r6 (1 : Int64) σ5)
set_option maxHeartbeats 4000000 in
set_option maxRecDepth 100000 in
theorem c_Mo_from (l : Launch) (g : Gw) (hg : wInj g) {v0 : Int64} {v2 : Int64} {r0 : Int64} {σ σ0 : Mem} (h : f_Mo_from v0 v2 σ = some (r0, σ0)) : KL l yMo_from cMo_from 6 (some .long) 2 g [.long v0, .long v2] σ r0 σ0 := by
  refine q_met g hg (own := "TermBenchModel") rfl rfl (Nat.le_of_ble_eq_true rfl) (fun p e s m args below meth c R Q cx hRk hr hQ H locs ls hP hS hl => ?_)
  have hx := cx.1
  have hb := cx.2.1
  have hown := cx.2.2.2.1
  have hts := cx.2.2.2.2.1
  have hl : lv_has ls 6 [(0, .long v0), (2, .long v2)] := hl
  have J46 : ∀ (v0 : Int64) (v2 : Int64) (v4 : Int32) (v5 : Int32) (u0 : Int64) (σ : Mem), f_Mo_from_J46 v0 v2 v4 v5 u0 σ = some (r0, σ0) → ∀ (H : Heap) (locs : List Loc) (ls : Array Slot), lv_has ls 6 [(0, .long v0), (2, .long v2), (4, .int v4), (5, .int v5)] → Wd g σ H → va_S (wA g) s.heap H locs → W p l e R s m args below meth c H locs 0 0 Q (F0 m 46 ls [.long u0]) := by
    intro v0 v2 v4 v5 u0 σ h H locs ls hl hP hS
    unfold f_Mo_from_J46 at h
    exact q_rl cx hr hP hS hQ h dMo_from_46
  unfold f_Mo_from at h
  refine lv_lload_n hx hb dMo_from_0 rfl (lv_at hl 0 rfl) ?_
  refine lv_iconst (v := 0) hx hb dMo_from_1 (by decide) ?_
  obtain ⟨r3, σ2, h1, h⟩ := bn_some h
  refine q_cSi (rest := []) (As := [.long v0, .int (0 : Int32)]) cx hP hS hRk (c_Mo_behind l g hg h1) Y_Mo_behind S_Mo_behind t_731 (by decide) rfl hl.1 rfl (Nat.le_of_ble_eq_true rfl) dMo_from_2 (fun H locs hP hS => ?_)
  refine lv_istore (lv' := [(4, .int r3), (0, .long v0), (2, .long v2)]) hx hb dMo_from_5 hl (Nat.le_of_ble_eq_true rfl) rfl (fun ls hl => ?_)
  refine lv_lload_n hx hb dMo_from_7 rfl (lv_at hl 2 rfl) ?_
  refine lv_iconst (v := 0) hx hb dMo_from_8 (by decide) ?_
  obtain ⟨r6, σ5, h4, h⟩ := bn_some h
  refine q_cSi (rest := []) (As := [.long v2, .int (0 : Int32)]) cx hP hS hRk (c_Mo_behind l g hg h4) Y_Mo_behind S_Mo_behind t_731 (by decide) rfl hl.1 rfl (Nat.le_of_ble_eq_true rfl) dMo_from_9 (fun H locs hP hS => ?_)
  refine lv_istore (lv' := [(5, .int r6), (4, .int r3), (0, .long v0), (2, .long v2)]) hx hb dMo_from_12 hl (Nat.le_of_ble_eq_true rfl) rfl (fun ls hl => ?_)
  refine lv_iconst (v := 1) hx hb dMo_from_14 (by decide) ?_
  refine lv_iload hx hb dMo_from_15 (lv_at hl 1 rfl) ?_
  refine lv_iadd hx hb dMo_from_17 ?_
  refine lv_iload hx hb dMo_from_18 (lv_at hl 0 rfl) ?_
  refine lv_iadd hx hb dMo_from_20 ?_
  refine lv_bipush (v := 27) hx hb dMo_from_21 (by decide) ?_
  refine lv_icmp_le (tgt := 30) hx hb dMo_from_23 (by decide) (fun hc => ?_) (fun hc => ?_)
  · replace h := if_t h hc
    refine lv_ldc2 (own := "TermBenchModel") (index := 99) (v := 3) hx hb hown (hts _ t_737) dMo_from_30 ?_
    refine lv_lload_n hx hb dMo_from_33 rfl (lv_at hl 2 rfl) ?_
    refine lv_iconst (v := 2) hx hb dMo_from_34 (by decide) ?_
    refine lv_lshl hx hb dMo_from_35 rfl ?_
    refine lv_lor hx hb dMo_from_36 ?_
    refine lv_lload_n hx hb dMo_from_37 rfl (lv_at hl 3 rfl) ?_
    refine lv_iconst (v := 2) hx hb dMo_from_38 (by decide) ?_
    refine lv_iconst (v := 2) hx hb dMo_from_39 (by decide) ?_
    refine lv_iload hx hb dMo_from_40 (lv_at hl 1 rfl) ?_
    refine lv_imul hx hb dMo_from_42 ?_
    refine lv_iadd hx hb dMo_from_43 ?_
    refine lv_lshl hx hb dMo_from_44 rfl ?_
    refine lv_lor hx hb dMo_from_45 ?_
    exact J46 _ _ _ _ _ _ h _ _ _ (lv_sub hl [2, 3, 1, 0] rfl) hP hS
  · replace h := if_f h hc
    refine lv_lconst (v := 1) hx hb dMo_from_26 rfl ?_
    refine lv_goto (tgt := 46) hx hb dMo_from_27 (by decide) ?_
    exact J46 _ _ _ _ _ _ h _ _ _ (lv_sub hl [2, 3, 1, 0] rfl) hP hS
theorem dMo_parts_0 : decode cMo_parts 0 = .ok (.iload_n 0, 1) := by decide +kernel
theorem dMo_parts_1 : decode cMo_parts 1 = .ok (.iconst 3, 1) := by decide +kernel
theorem dMo_parts_2 : decode cMo_parts 2 = .ok (.if_icmp .eq 8, 3) := by decide +kernel
theorem dMo_parts_5 : decode cMo_parts 5 = .ok (.iload_n 0, 1) := by decide +kernel
theorem dMo_parts_6 : decode cMo_parts 6 = .ok (.iconst 4, 1) := by decide +kernel
theorem dMo_parts_7 : decode cMo_parts 7 = .ok (.if_icmp .ne 7, 3) := by decide +kernel
theorem dMo_parts_10 : decode cMo_parts 10 = .ok (.iconst 2, 1) := by decide +kernel
theorem dMo_parts_11 : decode cMo_parts 11 = .ok (.goto 19, 3) := by decide +kernel
theorem dMo_parts_14 : decode cMo_parts 14 = .ok (.iload_n 0, 1) := by decide +kernel
theorem dMo_parts_15 : decode cMo_parts 15 = .ok (.iconst 5, 1) := by decide +kernel
theorem dMo_parts_16 : decode cMo_parts 16 = .ok (.if_icmp .eq 9, 3) := by decide +kernel
theorem dMo_parts_19 : decode cMo_parts 19 = .ok (.iload_n 0, 1) := by decide +kernel
theorem dMo_parts_20 : decode cMo_parts 20 = .ok (.bipush 6, 2) := by decide +kernel
theorem dMo_parts_22 : decode cMo_parts 22 = .ok (.if_icmp .ne 7, 3) := by decide +kernel
theorem dMo_parts_25 : decode cMo_parts 25 = .ok (.iconst 1, 1) := by decide +kernel
theorem dMo_parts_26 : decode cMo_parts 26 = .ok (.goto 4, 3) := by decide +kernel
theorem dMo_parts_29 : decode cMo_parts 29 = .ok (.iconst 0, 1) := by decide +kernel
theorem dMo_parts_30 : decode cMo_parts 30 = .ok (.ireturn, 1) := by decide +kernel
def f_Mo_parts_J30  (v0 : Int32) (u0 : Int32) (σ : Mem) : Option (Int32 × Mem) :=
  some (u0, σ)
def f_Mo_parts_J25  (v0 : Int32) (σ : Mem) : Option (Int32 × Mem) :=
  f_Mo_parts_J30 v0 (1 : Int32) σ
def f_Mo_parts_J10  (v0 : Int32) (σ : Mem) : Option (Int32 × Mem) :=
  f_Mo_parts_J30 v0 (2 : Int32) σ
def f_Mo_parts  (v0 : Int32) (σ : Mem) : Option (Int32 × Mem) :=
  if v0 = (3 : Int32) then (
  f_Mo_parts_J10 v0 σ)
  else (
  if v0 = (4 : Int32) then (
  f_Mo_parts_J10 v0 σ)
  else (
  if v0 = (5 : Int32) then (
  f_Mo_parts_J25 v0 σ)
  else (
  if v0 = (6 : Int32) then (
  f_Mo_parts_J25 v0 σ)
  else (
  f_Mo_parts_J30 v0 (0 : Int32) σ))))
set_option maxHeartbeats 4000000 in
set_option maxRecDepth 100000 in
theorem c_Mo_parts (l : Launch) (g : Gw) (hg : wInj g) {v0 : Int32} {r0 : Int32} {σ σ0 : Mem} (h : f_Mo_parts v0 σ = some (r0, σ0)) : KI l yMo_parts cMo_parts 1 (some .int) 0 g [.int v0] σ r0 σ0 := by
  refine q_met g hg (own := "TermBenchModel") rfl rfl (Nat.le_of_ble_eq_true rfl) (fun p e s m args below meth c R Q cx hRk hr hQ H locs ls hP hS hl => ?_)
  have hx := cx.1
  have hb := cx.2.1
  have hown := cx.2.2.2.1
  have hts := cx.2.2.2.2.1
  have hl : lv_has ls 1 [(0, .int v0)] := hl
  have J30 : ∀ (v0 : Int32) (u0 : Int32) (σ : Mem), f_Mo_parts_J30 v0 u0 σ = some (r0, σ0) → ∀ (H : Heap) (locs : List Loc) (ls : Array Slot), lv_has ls 1 [(0, .int v0)] → Wd g σ H → va_S (wA g) s.heap H locs → W p l e R s m args below meth c H locs 0 0 Q (F0 m 30 ls [.int u0]) := by
    intro v0 u0 σ h H locs ls hl hP hS
    unfold f_Mo_parts_J30 at h
    exact q_ri cx hr rfl hP hS hQ h dMo_parts_30
  have J25 : ∀ (v0 : Int32) (σ : Mem), f_Mo_parts_J25 v0 σ = some (r0, σ0) → ∀ (H : Heap) (locs : List Loc) (ls : Array Slot), lv_has ls 1 [(0, .int v0)] → Wd g σ H → va_S (wA g) s.heap H locs → W p l e R s m args below meth c H locs 0 0 Q (F0 m 25 ls []) := by
    intro v0 σ h H locs ls hl hP hS
    unfold f_Mo_parts_J25 at h
    refine lv_iconst (v := 1) hx hb dMo_parts_25 (by decide) ?_
    refine lv_goto (tgt := 30) hx hb dMo_parts_26 (by decide) ?_
    exact J30 _ _ _ h _ _ _ (lv_sub hl [0] rfl) hP hS
  have J10 : ∀ (v0 : Int32) (σ : Mem), f_Mo_parts_J10 v0 σ = some (r0, σ0) → ∀ (H : Heap) (locs : List Loc) (ls : Array Slot), lv_has ls 1 [(0, .int v0)] → Wd g σ H → va_S (wA g) s.heap H locs → W p l e R s m args below meth c H locs 0 0 Q (F0 m 10 ls []) := by
    intro v0 σ h H locs ls hl hP hS
    unfold f_Mo_parts_J10 at h
    refine lv_iconst (v := 2) hx hb dMo_parts_10 (by decide) ?_
    refine lv_goto (tgt := 30) hx hb dMo_parts_11 (by decide) ?_
    exact J30 _ _ _ h _ _ _ (lv_sub hl [0] rfl) hP hS
  unfold f_Mo_parts at h
  refine lv_iload_n hx hb dMo_parts_0 rfl (lv_at hl 0 rfl) ?_
  refine lv_iconst (v := 3) hx hb dMo_parts_1 (by decide) ?_
  refine lv_icmp_eq (tgt := 10) hx hb dMo_parts_2 (by decide) (fun hc => ?_) (fun hc => ?_)
  · replace h := if_t h hc
    exact J10 _ _ h _ _ _ (lv_sub hl [0] rfl) hP hS
  · replace h := if_f h hc
    refine lv_iload_n hx hb dMo_parts_5 rfl (lv_at hl 0 rfl) ?_
    refine lv_iconst (v := 4) hx hb dMo_parts_6 (by decide) ?_
    refine lv_icmp_ne (tgt := 14) hx hb dMo_parts_7 (by decide) (fun hc => ?_) (fun hc => ?_)
    · replace h := if_f h hc
      refine lv_iload_n hx hb dMo_parts_14 rfl (lv_at hl 0 rfl) ?_
      refine lv_iconst (v := 5) hx hb dMo_parts_15 (by decide) ?_
      refine lv_icmp_eq (tgt := 25) hx hb dMo_parts_16 (by decide) (fun hc => ?_) (fun hc => ?_)
      · replace h := if_t h hc
        exact J25 _ _ h _ _ _ (lv_sub hl [0] rfl) hP hS
      · replace h := if_f h hc
        refine lv_iload_n hx hb dMo_parts_19 rfl (lv_at hl 0 rfl) ?_
        refine lv_bipush (v := 6) hx hb dMo_parts_20 (by decide) ?_
        refine lv_icmp_ne (tgt := 29) hx hb dMo_parts_22 (by decide) (fun hc => ?_) (fun hc => ?_)
        · replace h := if_f h hc
          refine lv_iconst (v := 0) hx hb dMo_parts_29 (by decide) ?_
          exact J30 _ _ _ h _ _ _ (lv_sub hl [0] rfl) hP hS
        · replace h := if_t h hc
          exact J25 _ _ h _ _ _ (lv_sub hl [0] rfl) hP hS
    · replace h := if_t h hc
      exact J10 _ _ h _ _ _ (lv_sub hl [0] rfl) hP hS
theorem dMo_end_0 : decode cMo_end 0 = .ok (.iconst 1, 1) := by decide +kernel
theorem dMo_end_1 : decode cMo_end 1 = .ok (.istore_n 2, 1) := by decide +kernel
theorem dMo_end_2 : decode cMo_end 2 = .ok (.iload_n 1, 1) := by decide +kernel
theorem dMo_end_3 : decode cMo_end 3 = .ok (.istore_n 3, 1) := by decide +kernel
theorem dMo_end_4 : decode cMo_end 4 = .ok (.iload_n 2, 1) := by decide +kernel
theorem dMo_end_5 : decode cMo_end 5 = .ok (.ifCond .le 23, 3) := by decide +kernel
theorem dMo_end_8 : decode cMo_end 8 = .ok (.iload_n 2, 1) := by decide +kernel
theorem dMo_end_9 : decode cMo_end 9 = .ok (.aload_n 0, 1) := by decide +kernel
theorem dMo_end_10 : decode cMo_end 10 = .ok (.getfield 13, 3) := by decide +kernel
theorem dMo_end_13 : decode cMo_end 13 = .ok (.iload_n 3, 1) := by decide +kernel
theorem dMo_end_14 : decode cMo_end 14 = .ok (.iaload, 1) := by decide +kernel
theorem dMo_end_15 : decode cMo_end 15 = .ok (.invokestatic 112, 3) := by decide +kernel
theorem dMo_end_18 : decode cMo_end 18 = .ok (.iconst 1, 1) := by decide +kernel
theorem dMo_end_19 : decode cMo_end 19 = .ok (.isub, 1) := by decide +kernel
theorem dMo_end_20 : decode cMo_end 20 = .ok (.iadd, 1) := by decide +kernel
theorem dMo_end_21 : decode cMo_end 21 = .ok (.istore_n 2, 1) := by decide +kernel
theorem dMo_end_22 : decode cMo_end 22 = .ok (.iinc 3 1, 3) := by decide +kernel
theorem dMo_end_25 : decode cMo_end 25 = .ok (.goto (-21), 3) := by decide +kernel
theorem dMo_end_28 : decode cMo_end 28 = .ok (.iload_n 3, 1) := by decide +kernel
theorem dMo_end_29 : decode cMo_end 29 = .ok (.ireturn, 1) := by decide +kernel
def f_Mo_end_L4  (v1 : Int32) (v2 : Int32) (v3 : Int32) (σ : Mem) : Option ((Int32 × Int32 × Mem) ⊕ (Int32 × Mem)) :=
  if v2 ≤ 0 then (
  inrM (some (v3, σ)))
  else (
  gd (inb v3 48) (
  bn (f_Mo_parts (σ.1 16 v3.toNatClampNeg) σ) fun (r5 : Int32) (σ4 : Mem) =>
  lt_ (v2 + (r5 - (1 : Int32))) fun (x6 : Int32) =>
  lt_ (v3 + 1) fun (x7 : Int32) =>
  some (.inl (x6, x7, σ4))))
def f_Mo_end  (v1 : Int32) (σ : Mem) : Option (Int32 × Mem) :=
  lt_ (1 : Int32) fun (x8 : Int32) =>
  loopF (fun (q : (Int32 × Int32 × Mem)) => f_Mo_end_L4 v1 q.1 q.2.1 q.2.2) FU (x8, v1, σ)
set_option maxHeartbeats 4000000 in
set_option maxRecDepth 100000 in
theorem c_Mo_end (l : Launch) (g : Gw) (hg : wInj g) {v1 : Int32} {r0 : Int32} {σ σ0 : Mem} (h : f_Mo_end v1 σ = some (r0, σ0)) : KI l yMo_end cMo_end 4 (some .int) 1 g [.ref (ad g 15), .int v1] σ r0 σ0 := by
  refine q_met g hg (own := "TermBenchModel") rfl rfl (Nat.le_of_ble_eq_true rfl) (fun p e s m args below meth c R Q cx hRk hr hQ H locs ls hP hS hl => ?_)
  have hx := cx.1
  have hb := cx.2.1
  have hown := cx.2.2.2.1
  have hts := cx.2.2.2.2.1
  have hl : lv_has ls 4 [(0, .ref (ad g 15)), (1, .int v1)] := hl
  unfold f_Mo_end at h
  refine lv_iconst (v := 1) hx hb dMo_end_0 (by decide) ?_
  obtain ⟨x8, ex8, h⟩ := lt_some h
  refine q_nmi ex8 ?_
  refine lv_istore_n (lv' := [(2, .int x8), (0, .ref (ad g 15)), (1, .int v1)]) hx hb dMo_end_1 rfl hl (Nat.le_of_ble_eq_true rfl) rfl (fun ls hl => ?_)
  refine lv_iload_n hx hb dMo_end_2 rfl (lv_at hl 2 rfl) ?_
  refine lv_istore_n (lv' := [(3, .int v1), (2, .int x8), (0, .ref (ad g 15)), (1, .int v1)]) hx hb dMo_end_3 rfl hl (Nat.le_of_ble_eq_true rfl) rfl (fun ls hl => ?_)
  have L4 : ∀ (n : Nat) (v1 : Int32) (v2 : Int32) (v3 : Int32) (σ : Mem), loopF (fun (q : (Int32 × Int32 × Mem)) => f_Mo_end_L4 v1 q.1 q.2.1 q.2.2) n (v2, v3, σ) = some (r0, σ0) → ∀ (H : Heap) (locs : List Loc) (ls : Array Slot), lv_has ls 4 [(0, .ref (ad g 15)), (1, .int v1), (2, .int v2), (3, .int v3)] → Wd g σ H → va_S (wA g) s.heap H locs → W p l e R s m args below meth c H locs 0 0 Q (F0 m 4 ls []) := by
    intro n
    induction n with
    | zero => intro v1 v2 v3 σ h; exact (loopF_zero h).elim
    | succ n ih4 =>
      intro v1 v2 v3 σ h H locs ls hl hP hS
      obtain ⟨o4, h, K4, E4⟩ := loopF_succ h
      have h : f_Mo_end_L4 v1 v2 v3 σ = some o4 := h
      unfold f_Mo_end_L4 at h
      refine lv_iload_n hx hb dMo_end_4 rfl (lv_at hl 2 rfl) ?_
      refine lv_if_le (tgt := 28) hx hb dMo_end_5 (by decide) (fun hc => ?_) (fun hc => ?_)
      · replace h := if_t h hc
        obtain ⟨z1, h, ez1⟩ := inrM_some h
        rw [E4 z1 ez1] at h
        refine lv_iload_n hx hb dMo_end_28 rfl (lv_at hl 3 rfl) ?_
        exact q_ri cx hr rfl hP hS hQ h dMo_end_29
      · replace h := if_f h hc
        refine lv_iload_n hx hb dMo_end_8 rfl (lv_at hl 2 rfl) ?_
        refine lv_aload_n hx hb dMo_end_9 rfl (lv_at hl 0 rfl) ?_
        refine g_Mo_kinds cx hP  t_532 dMo_end_10 ?_
        refine lv_iload_n hx hb dMo_end_13 rfl (lv_at hl 3 rfl) ?_
        obtain ⟨b2, h⟩ := gd_some h
        refine q_iald cx hP (by decide) (e_16 g) b2 dMo_end_14 ?_
        obtain ⟨r5, σ4, h3, h⟩ := bn_some h
        refine q_cSi (rest := [.int v2]) (As := [.int (σ.1 16 v3.toNatClampNeg)]) cx hP hS hRk (c_Mo_parts l g hg h3) Y_Mo_parts S_Mo_parts t_693 (by decide) rfl hl.1 rfl (Nat.le_of_ble_eq_true rfl) dMo_end_15 (fun H locs hP hS => ?_)
        refine lv_iconst (v := 1) hx hb dMo_end_18 (by decide) ?_
        refine lv_isub hx hb dMo_end_19 ?_
        refine lv_iadd hx hb dMo_end_20 ?_
        obtain ⟨x6, ex6, h⟩ := lt_some h
        refine q_nmi ex6 ?_
        refine lv_istore_n (lv' := [(2, .int x6), (0, .ref (ad g 15)), (1, .int v1), (3, .int v3)]) hx hb dMo_end_21 rfl hl (Nat.le_of_ble_eq_true rfl) rfl (fun ls hl => ?_)
        obtain ⟨x7, ex7, h⟩ := lt_some h
        refine lv_iinc (lv' := [(3, .int x7), (2, .int x6), (0, .ref (ad g 15)), (1, .int v1)]) hx hb dMo_end_22 hl (k := 3) rfl (q_inc ex7 (by decide)) (Nat.le_of_ble_eq_true rfl) rfl (fun ls hl => ?_)
        refine lv_goto (tgt := 4) hx hb dMo_end_25 (by decide) ?_
        exact ih4 _ _ _ _ (K4 _ (Option.some.inj h).symm) _ _ _ (lv_sub hl [2, 3, 1, 0] rfl) hP hS
  exact L4 _ _ _ _ _ h _ _ _ (lv_sub hl [2, 3, 1, 0] rfl) hP hS
theorem dMo_part_0 : decode cMo_part 0 = .ok (.iload_n 2, 1) := by decide +kernel
theorem dMo_part_1 : decode cMo_part 1 = .ok (.ifCond .ne 9, 3) := by decide +kernel
theorem dMo_part_4 : decode cMo_part 4 = .ok (.iload_n 1, 1) := by decide +kernel
theorem dMo_part_5 : decode cMo_part 5 = .ok (.iconst 1, 1) := by decide +kernel
theorem dMo_part_6 : decode cMo_part 6 = .ok (.iadd, 1) := by decide +kernel
theorem dMo_part_7 : decode cMo_part 7 = .ok (.goto 10, 3) := by decide +kernel
theorem dMo_part_10 : decode cMo_part 10 = .ok (.aload_n 0, 1) := by decide +kernel
theorem dMo_part_11 : decode cMo_part 11 = .ok (.iload_n 1, 1) := by decide +kernel
theorem dMo_part_12 : decode cMo_part 12 = .ok (.iconst 1, 1) := by decide +kernel
theorem dMo_part_13 : decode cMo_part 13 = .ok (.iadd, 1) := by decide +kernel
theorem dMo_part_14 : decode cMo_part 14 = .ok (.invokevirtual 116, 3) := by decide +kernel
theorem dMo_part_17 : decode cMo_part 17 = .ok (.ireturn, 1) := by decide +kernel
def f_Mo_part_J17  (v1 : Int32) (v2 : Int32) (u0 : Int32) (σ : Mem) : Option (Int32 × Mem) :=
  some (u0, σ)
def f_Mo_part  (v1 : Int32) (v2 : Int32) (σ : Mem) : Option (Int32 × Mem) :=
  if v2 = 0 then (
  f_Mo_part_J17 v1 v2 (v1 + (1 : Int32)) σ)
  else (
  bn (f_Mo_end (v1 + (1 : Int32)) σ) fun (r3 : Int32) (σ2 : Mem) =>
  f_Mo_part_J17 v1 v2 r3 σ2)
set_option maxHeartbeats 4000000 in
set_option maxRecDepth 100000 in
theorem c_Mo_part (l : Launch) (g : Gw) (hg : wInj g) {v1 : Int32} {v2 : Int32} {r0 : Int32} {σ σ0 : Mem} (h : f_Mo_part v1 v2 σ = some (r0, σ0)) : KI l yMo_part cMo_part 3 (some .int) 2 g [.ref (ad g 15), .int v1, .int v2] σ r0 σ0 := by
  refine q_met g hg (own := "TermBenchModel") rfl rfl (Nat.le_of_ble_eq_true rfl) (fun p e s m args below meth c R Q cx hRk hr hQ H locs ls hP hS hl => ?_)
  have hx := cx.1
  have hb := cx.2.1
  have hown := cx.2.2.2.1
  have hts := cx.2.2.2.2.1
  have hl : lv_has ls 3 [(0, .ref (ad g 15)), (1, .int v1), (2, .int v2)] := hl
  have J17 : ∀ (v1 : Int32) (v2 : Int32) (u0 : Int32) (σ : Mem), f_Mo_part_J17 v1 v2 u0 σ = some (r0, σ0) → ∀ (H : Heap) (locs : List Loc) (ls : Array Slot), lv_has ls 3 [(0, .ref (ad g 15)), (1, .int v1), (2, .int v2)] → Wd g σ H → va_S (wA g) s.heap H locs → W p l e R s m args below meth c H locs 0 0 Q (F0 m 17 ls [.int u0]) := by
    intro v1 v2 u0 σ h H locs ls hl hP hS
    unfold f_Mo_part_J17 at h
    exact q_ri cx hr rfl hP hS hQ h dMo_part_17
  unfold f_Mo_part at h
  refine lv_iload_n hx hb dMo_part_0 rfl (lv_at hl 2 rfl) ?_
  refine lv_if_ne (tgt := 10) hx hb dMo_part_1 (by decide) (fun hc => ?_) (fun hc => ?_)
  · replace h := if_f h hc
    refine lv_aload_n hx hb dMo_part_10 rfl (lv_at hl 0 rfl) ?_
    refine lv_iload_n hx hb dMo_part_11 rfl (lv_at hl 1 rfl) ?_
    refine lv_iconst (v := 1) hx hb dMo_part_12 (by decide) ?_
    refine lv_iadd hx hb dMo_part_13 ?_
    obtain ⟨r3, σ2, h1, h⟩ := bn_some h
    refine q_cVi (rest := []) (As := [.int (v1 + (1 : Int32))]) cx hP hS hRk (c_Mo_end l g hg h1) Y_Mo_end V_Mo_end t_689 (by decide) (by decide) (e_15 g _ _) rfl rfl hl.1 rfl (Nat.le_of_ble_eq_true rfl) dMo_part_14 (fun H locs hP hS => ?_)
    exact J17 _ _ _ _ h _ _ _ (lv_sub hl [0, 1, 2] rfl) hP hS
  · replace h := if_t h hc
    refine lv_iload_n hx hb dMo_part_4 rfl (lv_at hl 1 rfl) ?_
    refine lv_iconst (v := 1) hx hb dMo_part_5 (by decide) ?_
    refine lv_iadd hx hb dMo_part_6 ?_
    refine lv_goto (tgt := 17) hx hb dMo_part_7 (by decide) ?_
    exact J17 _ _ _ _ h _ _ _ (lv_sub hl [0, 1, 2] rfl) hP hS
theorem dMo_above_0 : decode cMo_above 0 = .ok (.iload_n 1, 1) := by decide +kernel
theorem dMo_above_1 : decode cMo_above 1 = .ok (.iconst 1, 1) := by decide +kernel
theorem dMo_above_2 : decode cMo_above 2 = .ok (.isub, 1) := by decide +kernel
theorem dMo_above_3 : decode cMo_above 3 = .ok (.istore_n 2, 1) := by decide +kernel
theorem dMo_above_4 : decode cMo_above 4 = .ok (.iload_n 2, 1) := by decide +kernel
theorem dMo_above_5 : decode cMo_above 5 = .ok (.ifCond .lt 18, 3) := by decide +kernel
theorem dMo_above_8 : decode cMo_above 8 = .ok (.aload_n 0, 1) := by decide +kernel
theorem dMo_above_9 : decode cMo_above 9 = .ok (.iload_n 2, 1) := by decide +kernel
theorem dMo_above_10 : decode cMo_above 10 = .ok (.invokevirtual 116, 3) := by decide +kernel
theorem dMo_above_13 : decode cMo_above 13 = .ok (.iload_n 1, 1) := by decide +kernel
theorem dMo_above_14 : decode cMo_above 14 = .ok (.if_icmp .gt 9, 3) := by decide +kernel
theorem dMo_above_17 : decode cMo_above 17 = .ok (.iinc 2 (-1), 3) := by decide +kernel
theorem dMo_above_20 : decode cMo_above 20 = .ok (.goto (-16), 3) := by decide +kernel
theorem dMo_above_23 : decode cMo_above 23 = .ok (.iload_n 2, 1) := by decide +kernel
theorem dMo_above_24 : decode cMo_above 24 = .ok (.ireturn, 1) := by decide +kernel
def f_Mo_above_J23  (v1 : Int32) (v2 : Int32) (σ : Mem) : Option (Int32 × Mem) :=
  some (v2, σ)
def f_Mo_above_L4  (v1 : Int32) (v2 : Int32) (σ : Mem) : Option ((Int32 × Mem) ⊕ (Int32 × Mem)) :=
  if v2 < 0 then (
  inrM (f_Mo_above_J23 v1 v2 σ))
  else (
  bn (f_Mo_end v2 σ) fun (r4 : Int32) (σ3 : Mem) =>
  if v1 < r4 then (
  inrM (f_Mo_above_J23 v1 v2 σ3))
  else (
  lt_ (v2 + (-1)) fun (x6 : Int32) =>
  some (.inl (x6, σ3))))
def f_Mo_above  (v1 : Int32) (σ : Mem) : Option (Int32 × Mem) :=
  lt_ (v1 - (1 : Int32)) fun (x7 : Int32) =>
  loopF (fun (q : (Int32 × Mem)) => f_Mo_above_L4 v1 q.1 q.2) FU (x7, σ)
set_option maxHeartbeats 4000000 in
set_option maxRecDepth 100000 in
theorem c_Mo_above (l : Launch) (g : Gw) (hg : wInj g) {v1 : Int32} {r0 : Int32} {σ σ0 : Mem} (h : f_Mo_above v1 σ = some (r0, σ0)) : KI l yMo_above cMo_above 3 (some .int) 2 g [.ref (ad g 15), .int v1] σ r0 σ0 := by
  refine q_met g hg (own := "TermBenchModel") rfl rfl (Nat.le_of_ble_eq_true rfl) (fun p e s m args below meth c R Q cx hRk hr hQ H locs ls hP hS hl => ?_)
  have hx := cx.1
  have hb := cx.2.1
  have hown := cx.2.2.2.1
  have hts := cx.2.2.2.2.1
  have hl : lv_has ls 3 [(0, .ref (ad g 15)), (1, .int v1)] := hl
  have J23 : ∀ (v1 : Int32) (v2 : Int32) (σ : Mem), f_Mo_above_J23 v1 v2 σ = some (r0, σ0) → ∀ (H : Heap) (locs : List Loc) (ls : Array Slot), lv_has ls 3 [(0, .ref (ad g 15)), (1, .int v1), (2, .int v2)] → Wd g σ H → va_S (wA g) s.heap H locs → W p l e R s m args below meth c H locs 0 0 Q (F0 m 23 ls []) := by
    intro v1 v2 σ h H locs ls hl hP hS
    unfold f_Mo_above_J23 at h
    refine lv_iload_n hx hb dMo_above_23 rfl (lv_at hl 2 rfl) ?_
    exact q_ri cx hr rfl hP hS hQ h dMo_above_24
  unfold f_Mo_above at h
  refine lv_iload_n hx hb dMo_above_0 rfl (lv_at hl 1 rfl) ?_
  refine lv_iconst (v := 1) hx hb dMo_above_1 (by decide) ?_
  refine lv_isub hx hb dMo_above_2 ?_
  obtain ⟨x7, ex7, h⟩ := lt_some h
  refine q_nmi ex7 ?_
  refine lv_istore_n (lv' := [(2, .int x7), (0, .ref (ad g 15)), (1, .int v1)]) hx hb dMo_above_3 rfl hl (Nat.le_of_ble_eq_true rfl) rfl (fun ls hl => ?_)
  have L4 : ∀ (n : Nat) (v1 : Int32) (v2 : Int32) (σ : Mem), loopF (fun (q : (Int32 × Mem)) => f_Mo_above_L4 v1 q.1 q.2) n (v2, σ) = some (r0, σ0) → ∀ (H : Heap) (locs : List Loc) (ls : Array Slot), lv_has ls 3 [(0, .ref (ad g 15)), (1, .int v1), (2, .int v2)] → Wd g σ H → va_S (wA g) s.heap H locs → W p l e R s m args below meth c H locs 0 0 Q (F0 m 4 ls []) := by
    intro n
    induction n with
    | zero => intro v1 v2 σ h; exact (loopF_zero h).elim
    | succ n ih4 =>
      intro v1 v2 σ h H locs ls hl hP hS
      obtain ⟨o4, h, K4, E4⟩ := loopF_succ h
      have h : f_Mo_above_L4 v1 v2 σ = some o4 := h
      unfold f_Mo_above_L4 at h
      refine lv_iload_n hx hb dMo_above_4 rfl (lv_at hl 2 rfl) ?_
      refine lv_if_lt (tgt := 23) hx hb dMo_above_5 (by decide) (fun hc => ?_) (fun hc => ?_)
      · replace h := if_t h hc
        obtain ⟨z1, h, ez1⟩ := inrM_some h
        rw [E4 z1 ez1] at h
        exact J23 _ _ _ h _ _ _ (lv_sub hl [0, 1, 2] rfl) hP hS
      · replace h := if_f h hc
        refine lv_aload_n hx hb dMo_above_8 rfl (lv_at hl 0 rfl) ?_
        refine lv_iload_n hx hb dMo_above_9 rfl (lv_at hl 2 rfl) ?_
        obtain ⟨r4, σ3, h2, h⟩ := bn_some h
        refine q_cVi (rest := []) (As := [.int v2]) cx hP hS hRk (c_Mo_end l g hg h2) Y_Mo_end V_Mo_end t_689 (by decide) (by decide) (e_15 g _ _) rfl rfl hl.1 rfl (Nat.le_of_ble_eq_true rfl) dMo_above_10 (fun H locs hP hS => ?_)
        refine lv_iload_n hx hb dMo_above_13 rfl (lv_at hl 1 rfl) ?_
        refine lv_icmp_gt (tgt := 23) hx hb dMo_above_14 (by decide) (fun hc => ?_) (fun hc => ?_)
        · replace h := if_t h hc
          obtain ⟨z5, h, ez5⟩ := inrM_some h
          rw [E4 z5 ez5] at h
          exact J23 _ _ _ h _ _ _ (lv_sub hl [0, 1, 2] rfl) hP hS
        · replace h := if_f h hc
          obtain ⟨x6, ex6, h⟩ := lt_some h
          refine lv_iinc (lv' := [(2, .int x6), (0, .ref (ad g 15)), (1, .int v1)]) hx hb dMo_above_17 hl (k := 2) rfl (q_inc ex6 (by decide)) (Nat.le_of_ble_eq_true rfl) rfl (fun ls hl => ?_)
          refine lv_goto (tgt := 4) hx hb dMo_above_20 (by decide) ?_
          exact ih4 _ _ _ (K4 _ (Option.some.inj h).symm) _ _ _ (lv_sub hl [1, 2, 0] rfl) hP hS
  exact L4 _ _ _ _ h _ _ _ (lv_sub hl [1, 2, 0] rfl) hP hS
theorem dMo_depth_0 : decode cMo_depth 0 = .ok (.iconst 1, 1) := by decide +kernel
theorem dMo_depth_1 : decode cMo_depth 1 = .ok (.istore_n 2, 1) := by decide +kernel
theorem dMo_depth_2 : decode cMo_depth 2 = .ok (.iconst 0, 1) := by decide +kernel
theorem dMo_depth_3 : decode cMo_depth 3 = .ok (.istore_n 3, 1) := by decide +kernel
theorem dMo_depth_4 : decode cMo_depth 4 = .ok (.iload_n 3, 1) := by decide +kernel
theorem dMo_depth_5 : decode cMo_depth 5 = .ok (.iload_n 1, 1) := by decide +kernel
theorem dMo_depth_6 : decode cMo_depth 6 = .ok (.if_icmp .ge 26, 3) := by decide +kernel
theorem dMo_depth_9 : decode cMo_depth 9 = .ok (.iload_n 2, 1) := by decide +kernel
theorem dMo_depth_10 : decode cMo_depth 10 = .ok (.aload_n 0, 1) := by decide +kernel
theorem dMo_depth_11 : decode cMo_depth 11 = .ok (.iload_n 3, 1) := by decide +kernel
theorem dMo_depth_12 : decode cMo_depth 12 = .ok (.invokevirtual 116, 3) := by decide +kernel
theorem dMo_depth_15 : decode cMo_depth 15 = .ok (.iload_n 1, 1) := by decide +kernel
theorem dMo_depth_16 : decode cMo_depth 16 = .ok (.if_icmp .le 7, 3) := by decide +kernel
theorem dMo_depth_19 : decode cMo_depth 19 = .ok (.iconst 1, 1) := by decide +kernel
theorem dMo_depth_20 : decode cMo_depth 20 = .ok (.goto 4, 3) := by decide +kernel
theorem dMo_depth_23 : decode cMo_depth 23 = .ok (.iconst 0, 1) := by decide +kernel
theorem dMo_depth_24 : decode cMo_depth 24 = .ok (.iadd, 1) := by decide +kernel
theorem dMo_depth_25 : decode cMo_depth 25 = .ok (.istore_n 2, 1) := by decide +kernel
theorem dMo_depth_26 : decode cMo_depth 26 = .ok (.iinc 3 1, 3) := by decide +kernel
theorem dMo_depth_29 : decode cMo_depth 29 = .ok (.goto (-25), 3) := by decide +kernel
theorem dMo_depth_32 : decode cMo_depth 32 = .ok (.iload_n 2, 1) := by decide +kernel
theorem dMo_depth_33 : decode cMo_depth 33 = .ok (.ireturn, 1) := by decide +kernel
def f_Mo_depth_J24  (v1 : Int32) (v2 : Int32) (v3 : Int32) (u0 : Int32) (u1 : Int32) (σ : Mem) : Option ((Int32 × Int32 × Mem) ⊕ (Int32 × Mem)) :=
  lt_ (u0 + u1) fun (x1 : Int32) =>
  lt_ (v3 + 1) fun (x2 : Int32) =>
  some (.inl (x1, x2, σ))
def f_Mo_depth_L4  (v1 : Int32) (v2 : Int32) (v3 : Int32) (σ : Mem) : Option ((Int32 × Int32 × Mem) ⊕ (Int32 × Mem)) :=
  if v1 ≤ v3 then (
  inrM (some (v2, σ)))
  else (
  bn (f_Mo_end v3 σ) fun (r6 : Int32) (σ5 : Mem) =>
  if r6 ≤ v1 then (
  f_Mo_depth_J24 v1 v2 v3 v2 (0 : Int32) σ5)
  else (
  f_Mo_depth_J24 v1 v2 v3 v2 (1 : Int32) σ5))
def f_Mo_depth  (v1 : Int32) (σ : Mem) : Option (Int32 × Mem) :=
  lt_ (1 : Int32) fun (x7 : Int32) =>
  lt_ (0 : Int32) fun (x8 : Int32) =>
  loopF (fun (q : (Int32 × Int32 × Mem)) => f_Mo_depth_L4 v1 q.1 q.2.1 q.2.2) FU (x7, x8, σ)
set_option maxHeartbeats 4000000 in
set_option maxRecDepth 100000 in
theorem c_Mo_depth (l : Launch) (g : Gw) (hg : wInj g) {v1 : Int32} {r0 : Int32} {σ σ0 : Mem} (h : f_Mo_depth v1 σ = some (r0, σ0)) : KI l yMo_depth cMo_depth 4 (some .int) 2 g [.ref (ad g 15), .int v1] σ r0 σ0 := by
  refine q_met g hg (own := "TermBenchModel") rfl rfl (Nat.le_of_ble_eq_true rfl) (fun p e s m args below meth c R Q cx hRk hr hQ H locs ls hP hS hl => ?_)
  have hx := cx.1
  have hb := cx.2.1
  have hown := cx.2.2.2.1
  have hts := cx.2.2.2.2.1
  have hl : lv_has ls 4 [(0, .ref (ad g 15)), (1, .int v1)] := hl
  unfold f_Mo_depth at h
  refine lv_iconst (v := 1) hx hb dMo_depth_0 (by decide) ?_
  obtain ⟨x7, ex7, h⟩ := lt_some h
  refine q_nmi ex7 ?_
  refine lv_istore_n (lv' := [(2, .int x7), (0, .ref (ad g 15)), (1, .int v1)]) hx hb dMo_depth_1 rfl hl (Nat.le_of_ble_eq_true rfl) rfl (fun ls hl => ?_)
  refine lv_iconst (v := 0) hx hb dMo_depth_2 (by decide) ?_
  obtain ⟨x8, ex8, h⟩ := lt_some h
  refine q_nmi ex8 ?_
  refine lv_istore_n (lv' := [(3, .int x8), (2, .int x7), (0, .ref (ad g 15)), (1, .int v1)]) hx hb dMo_depth_3 rfl hl (Nat.le_of_ble_eq_true rfl) rfl (fun ls hl => ?_)
  have L4 : ∀ (n : Nat) (v1 : Int32) (v2 : Int32) (v3 : Int32) (σ : Mem), loopF (fun (q : (Int32 × Int32 × Mem)) => f_Mo_depth_L4 v1 q.1 q.2.1 q.2.2) n (v2, v3, σ) = some (r0, σ0) → ∀ (H : Heap) (locs : List Loc) (ls : Array Slot), lv_has ls 4 [(0, .ref (ad g 15)), (1, .int v1), (2, .int v2), (3, .int v3)] → Wd g σ H → va_S (wA g) s.heap H locs → W p l e R s m args below meth c H locs 0 0 Q (F0 m 4 ls []) := by
    intro n
    induction n with
    | zero => intro v1 v2 v3 σ h; exact (loopF_zero h).elim
    | succ n ih4 =>
      intro v1 v2 v3 σ h H locs ls hl hP hS
      obtain ⟨o4, h, K4, E4⟩ := loopF_succ h
      have h : f_Mo_depth_L4 v1 v2 v3 σ = some o4 := h
      have J24 : ∀ (v2 : Int32) (v3 : Int32) (u0 : Int32) (u1 : Int32) (σ : Mem), f_Mo_depth_J24 v1 v2 v3 u0 u1 σ = some o4 → ∀ (H : Heap) (locs : List Loc) (ls : Array Slot), lv_has ls 4 [(0, .ref (ad g 15)), (1, .int v1), (2, .int v2), (3, .int v3)] → Wd g σ H → va_S (wA g) s.heap H locs → W p l e R s m args below meth c H locs 0 0 Q (F0 m 24 ls [.int u1, .int u0]) := by
        intro v2 v3 u0 u1 σ h H locs ls hl hP hS
        unfold f_Mo_depth_J24 at h
        refine lv_iadd hx hb dMo_depth_24 ?_
        obtain ⟨x1, ex1, h⟩ := lt_some h
        refine q_nmi ex1 ?_
        refine lv_istore_n (lv' := [(2, .int x1), (0, .ref (ad g 15)), (1, .int v1), (3, .int v3)]) hx hb dMo_depth_25 rfl hl (Nat.le_of_ble_eq_true rfl) rfl (fun ls hl => ?_)
        obtain ⟨x2, ex2, h⟩ := lt_some h
        refine lv_iinc (lv' := [(3, .int x2), (2, .int x1), (0, .ref (ad g 15)), (1, .int v1)]) hx hb dMo_depth_26 hl (k := 3) rfl (q_inc ex2 (by decide)) (Nat.le_of_ble_eq_true rfl) rfl (fun ls hl => ?_)
        refine lv_goto (tgt := 4) hx hb dMo_depth_29 (by decide) ?_
        exact ih4 _ _ _ _ (K4 _ (Option.some.inj h).symm) _ _ _ (lv_sub hl [2, 3, 1, 0] rfl) hP hS
      unfold f_Mo_depth_L4 at h
      refine lv_iload_n hx hb dMo_depth_4 rfl (lv_at hl 3 rfl) ?_
      refine lv_iload_n hx hb dMo_depth_5 rfl (lv_at hl 1 rfl) ?_
      refine lv_icmp_ge (tgt := 32) hx hb dMo_depth_6 (by decide) (fun hc => ?_) (fun hc => ?_)
      · replace h := if_t h hc
        obtain ⟨z3, h, ez3⟩ := inrM_some h
        rw [E4 z3 ez3] at h
        refine lv_iload_n hx hb dMo_depth_32 rfl (lv_at hl 2 rfl) ?_
        exact q_ri cx hr rfl hP hS hQ h dMo_depth_33
      · replace h := if_f h hc
        refine lv_iload_n hx hb dMo_depth_9 rfl (lv_at hl 2 rfl) ?_
        refine lv_aload_n hx hb dMo_depth_10 rfl (lv_at hl 0 rfl) ?_
        refine lv_iload_n hx hb dMo_depth_11 rfl (lv_at hl 3 rfl) ?_
        obtain ⟨r6, σ5, h4, h⟩ := bn_some h
        refine q_cVi (rest := [.int v2]) (As := [.int v3]) cx hP hS hRk (c_Mo_end l g hg h4) Y_Mo_end V_Mo_end t_689 (by decide) (by decide) (e_15 g _ _) rfl rfl hl.1 rfl (Nat.le_of_ble_eq_true rfl) dMo_depth_12 (fun H locs hP hS => ?_)
        refine lv_iload_n hx hb dMo_depth_15 rfl (lv_at hl 1 rfl) ?_
        refine lv_icmp_le (tgt := 23) hx hb dMo_depth_16 (by decide) (fun hc => ?_) (fun hc => ?_)
        · replace h := if_t h hc
          refine lv_iconst (v := 0) hx hb dMo_depth_23 (by decide) ?_
          exact J24 _ _ _ _ _ h _ _ _ (lv_sub hl [0, 1, 2, 3] rfl) hP hS
        · replace h := if_f h hc
          refine lv_iconst (v := 1) hx hb dMo_depth_19 (by decide) ?_
          refine lv_goto (tgt := 24) hx hb dMo_depth_20 (by decide) ?_
          exact J24 _ _ _ _ _ h _ _ _ (lv_sub hl [0, 1, 2, 3] rfl) hP hS
  exact L4 _ _ _ _ _ h _ _ _ (lv_sub hl [2, 3, 1, 0] rfl) hP hS
theorem dMo_shift_0 : decode cMo_shift 0 = .ok (.aload_n 0, 1) := by decide +kernel
theorem dMo_shift_1 : decode cMo_shift 1 = .ok (.getfield 13, 3) := by decide +kernel
theorem dMo_shift_4 : decode cMo_shift 4 = .ok (.iload_n 2, 1) := by decide +kernel
theorem dMo_shift_5 : decode cMo_shift 5 = .ok (.aload_n 0, 1) := by decide +kernel
theorem dMo_shift_6 : decode cMo_shift 6 = .ok (.getfield 13, 3) := by decide +kernel
theorem dMo_shift_9 : decode cMo_shift 9 = .ok (.iload_n 1, 1) := by decide +kernel
theorem dMo_shift_10 : decode cMo_shift 10 = .ok (.iaload, 1) := by decide +kernel
theorem dMo_shift_11 : decode cMo_shift 11 = .ok (.iastore, 1) := by decide +kernel
theorem dMo_shift_12 : decode cMo_shift 12 = .ok (.aload_n 0, 1) := by decide +kernel
theorem dMo_shift_13 : decode cMo_shift 13 = .ok (.getfield 17, 3) := by decide +kernel
theorem dMo_shift_16 : decode cMo_shift 16 = .ok (.iload_n 2, 1) := by decide +kernel
theorem dMo_shift_17 : decode cMo_shift 17 = .ok (.aload_n 0, 1) := by decide +kernel
theorem dMo_shift_18 : decode cMo_shift 18 = .ok (.getfield 17, 3) := by decide +kernel
theorem dMo_shift_21 : decode cMo_shift 21 = .ok (.iload_n 1, 1) := by decide +kernel
theorem dMo_shift_22 : decode cMo_shift 22 = .ok (.iaload, 1) := by decide +kernel
theorem dMo_shift_23 : decode cMo_shift 23 = .ok (.iastore, 1) := by decide +kernel
theorem dMo_shift_24 : decode cMo_shift 24 = .ok (.aload_n 0, 1) := by decide +kernel
theorem dMo_shift_25 : decode cMo_shift 25 = .ok (.getfield 20, 3) := by decide +kernel
theorem dMo_shift_28 : decode cMo_shift 28 = .ok (.iload_n 2, 1) := by decide +kernel
theorem dMo_shift_29 : decode cMo_shift 29 = .ok (.aload_n 0, 1) := by decide +kernel
theorem dMo_shift_30 : decode cMo_shift 30 = .ok (.getfield 20, 3) := by decide +kernel
theorem dMo_shift_33 : decode cMo_shift 33 = .ok (.iload_n 1, 1) := by decide +kernel
theorem dMo_shift_34 : decode cMo_shift 34 = .ok (.laload, 1) := by decide +kernel
theorem dMo_shift_35 : decode cMo_shift 35 = .ok (.lastore, 1) := by decide +kernel
theorem dMo_shift_36 : decode cMo_shift 36 = .ok (.return_, 1) := by decide +kernel
def f_Mo_shift  (v1 : Int32) (v2 : Int32) (σ : Mem) : Option (Unit × Mem) :=
  gd (inb v1 48) (
  gd (inb v2 48) (lt_ (sI σ 16 v2.toNatClampNeg (σ.1 16 v1.toNatClampNeg)) fun (σ3 : Mem) =>
  gd (inb v1 48) (
  gd (inb v2 48) (lt_ (sI σ3 17 v2.toNatClampNeg (σ3.1 17 v1.toNatClampNeg)) fun (σ6 : Mem) =>
  gd (inb v1 48) (
  gd (inb v2 48) (lt_ (sL σ6 18 v2.toNatClampNeg (σ6.2 18 v1.toNatClampNeg)) fun (σ9 : Mem) =>
  some ((), σ9)))))))
set_option maxHeartbeats 4000000 in
set_option maxRecDepth 100000 in
theorem c_Mo_shift (l : Launch) (g : Gw) (hg : wInj g) {v1 : Int32} {v2 : Int32} {σ σ0 : Mem} (h : f_Mo_shift v1 v2 σ = some ((), σ0)) : KV l yMo_shift cMo_shift 3 none 0 g [.ref (ad g 15), .int v1, .int v2] σ σ0 := by
  refine q_met g hg (own := "TermBenchModel") rfl rfl (Nat.le_of_ble_eq_true rfl) (fun p e s m args below meth c R Q cx hRk hr hQ H locs ls hP hS hl => ?_)
  have hx := cx.1
  have hb := cx.2.1
  have hown := cx.2.2.2.1
  have hts := cx.2.2.2.2.1
  have hl : lv_has ls 3 [(0, .ref (ad g 15)), (1, .int v1), (2, .int v2)] := hl
  unfold f_Mo_shift at h
  refine lv_aload_n hx hb dMo_shift_0 rfl (lv_at hl 0 rfl) ?_
  refine g_Mo_kinds cx hP  t_532 dMo_shift_1 ?_
  refine lv_iload_n hx hb dMo_shift_4 rfl (lv_at hl 2 rfl) ?_
  refine lv_aload_n hx hb dMo_shift_5 rfl (lv_at hl 0 rfl) ?_
  refine g_Mo_kinds cx hP  t_532 dMo_shift_6 ?_
  refine lv_iload_n hx hb dMo_shift_9 rfl (lv_at hl 1 rfl) ?_
  obtain ⟨b1, h⟩ := gd_some h
  refine q_iald cx hP (by decide) (e_16 g) b1 dMo_shift_10 ?_
  obtain ⟨b2, h⟩ := gd_some h
  obtain ⟨σ3, eσ3, h⟩ := lt_some h
  refine q_iast cx hP hS (by decide) (e_16 g) b2 dMo_shift_11 eσ3 (fun H locs hP hS => ?_)
  refine lv_aload_n hx hb dMo_shift_12 rfl (lv_at hl 0 rfl) ?_
  refine g_Mo_values cx hP  t_533 dMo_shift_13 ?_
  refine lv_iload_n hx hb dMo_shift_16 rfl (lv_at hl 2 rfl) ?_
  refine lv_aload_n hx hb dMo_shift_17 rfl (lv_at hl 0 rfl) ?_
  refine g_Mo_values cx hP  t_533 dMo_shift_18 ?_
  refine lv_iload_n hx hb dMo_shift_21 rfl (lv_at hl 1 rfl) ?_
  obtain ⟨b4, h⟩ := gd_some h
  refine q_iald cx hP (by decide) (e_17 g) b4 dMo_shift_22 ?_
  obtain ⟨b5, h⟩ := gd_some h
  obtain ⟨σ6, eσ6, h⟩ := lt_some h
  refine q_iast cx hP hS (by decide) (e_17 g) b5 dMo_shift_23 eσ6 (fun H locs hP hS => ?_)
  refine lv_aload_n hx hb dMo_shift_24 rfl (lv_at hl 0 rfl) ?_
  refine g_Mo_types cx hP  t_534 dMo_shift_25 ?_
  refine lv_iload_n hx hb dMo_shift_28 rfl (lv_at hl 2 rfl) ?_
  refine lv_aload_n hx hb dMo_shift_29 rfl (lv_at hl 0 rfl) ?_
  refine g_Mo_types cx hP  t_534 dMo_shift_30 ?_
  refine lv_iload_n hx hb dMo_shift_33 rfl (lv_at hl 1 rfl) ?_
  obtain ⟨b7, h⟩ := gd_some h
  refine q_lald cx hP (by decide) (e_18 g) b7 dMo_shift_34 ?_
  obtain ⟨b8, h⟩ := gd_some h
  obtain ⟨σ9, eσ9, h⟩ := lt_some h
  refine q_last cx hP hS (by decide) (e_18 g) b8 dMo_shift_35 eσ9 (fun H locs hP hS => ?_)
  exact q_rv cx hr hP hS hQ h dMo_shift_36
theorem dMo_insert_0 : decode cMo_insert 0 = .ok (.aload_n 0, 1) := by decide +kernel
theorem dMo_insert_1 : decode cMo_insert 1 = .ok (.getfield 7, 3) := by decide +kernel
theorem dMo_insert_4 : decode cMo_insert 4 = .ok (.istore 6, 2) := by decide +kernel
theorem dMo_insert_6 : decode cMo_insert 6 = .ok (.iload 6, 2) := by decide +kernel
theorem dMo_insert_8 : decode cMo_insert 8 = .ok (.iload_n 1, 1) := by decide +kernel
theorem dMo_insert_9 : decode cMo_insert 9 = .ok (.if_icmp .le 19, 3) := by decide +kernel
theorem dMo_insert_12 : decode cMo_insert 12 = .ok (.aload_n 0, 1) := by decide +kernel
theorem dMo_insert_13 : decode cMo_insert 13 = .ok (.iload 6, 2) := by decide +kernel
theorem dMo_insert_15 : decode cMo_insert 15 = .ok (.iconst 1, 1) := by decide +kernel
theorem dMo_insert_16 : decode cMo_insert 16 = .ok (.isub, 1) := by decide +kernel
theorem dMo_insert_17 : decode cMo_insert 17 = .ok (.iload 6, 2) := by decide +kernel
theorem dMo_insert_19 : decode cMo_insert 19 = .ok (.invokevirtual 119, 3) := by decide +kernel
theorem dMo_insert_22 : decode cMo_insert 22 = .ok (.iinc 6 (-1), 3) := by decide +kernel
theorem dMo_insert_25 : decode cMo_insert 25 = .ok (.goto (-19), 3) := by decide +kernel
theorem dMo_insert_28 : decode cMo_insert 28 = .ok (.aload_n 0, 1) := by decide +kernel
theorem dMo_insert_29 : decode cMo_insert 29 = .ok (.getfield 13, 3) := by decide +kernel
theorem dMo_insert_32 : decode cMo_insert 32 = .ok (.iload_n 1, 1) := by decide +kernel
theorem dMo_insert_33 : decode cMo_insert 33 = .ok (.iload_n 2, 1) := by decide +kernel
theorem dMo_insert_34 : decode cMo_insert 34 = .ok (.iastore, 1) := by decide +kernel
theorem dMo_insert_35 : decode cMo_insert 35 = .ok (.aload_n 0, 1) := by decide +kernel
theorem dMo_insert_36 : decode cMo_insert 36 = .ok (.getfield 17, 3) := by decide +kernel
theorem dMo_insert_39 : decode cMo_insert 39 = .ok (.iload_n 1, 1) := by decide +kernel
theorem dMo_insert_40 : decode cMo_insert 40 = .ok (.iload_n 3, 1) := by decide +kernel
theorem dMo_insert_41 : decode cMo_insert 41 = .ok (.iastore, 1) := by decide +kernel
theorem dMo_insert_42 : decode cMo_insert 42 = .ok (.aload_n 0, 1) := by decide +kernel
theorem dMo_insert_43 : decode cMo_insert 43 = .ok (.getfield 20, 3) := by decide +kernel
theorem dMo_insert_46 : decode cMo_insert 46 = .ok (.iload_n 1, 1) := by decide +kernel
theorem dMo_insert_47 : decode cMo_insert 47 = .ok (.lload 4, 2) := by decide +kernel
theorem dMo_insert_49 : decode cMo_insert 49 = .ok (.lastore, 1) := by decide +kernel
theorem dMo_insert_50 : decode cMo_insert 50 = .ok (.aload_n 0, 1) := by decide +kernel
theorem dMo_insert_51 : decode cMo_insert 51 = .ok (.dup, 1) := by decide +kernel
theorem dMo_insert_52 : decode cMo_insert 52 = .ok (.getfield 7, 3) := by decide +kernel
theorem dMo_insert_55 : decode cMo_insert 55 = .ok (.iconst 1, 1) := by decide +kernel
theorem dMo_insert_56 : decode cMo_insert 56 = .ok (.iadd, 1) := by decide +kernel
theorem dMo_insert_57 : decode cMo_insert 57 = .ok (.putfield 7, 3) := by decide +kernel
theorem dMo_insert_60 : decode cMo_insert 60 = .ok (.return_, 1) := by decide +kernel
def f_Mo_insert_L6  (v1 : Int32) (v2 : Int32) (v3 : Int32) (v4 : Int64) (v6 : Int32) (σ : Mem) : Option ((Int32 × Mem) ⊕ (Unit × Mem)) :=
  if v6 ≤ v1 then (
  inrM (gd (inb v1 48) (lt_ (sI σ 16 v1.toNatClampNeg v2) fun (σ3 : Mem) =>
  gd (inb v1 48) (lt_ (sI σ3 17 v1.toNatClampNeg v3) fun (σ5 : Mem) =>
  gd (inb v1 48) (lt_ (sL σ5 18 v1.toNatClampNeg v4) fun (σ7 : Mem) =>
  lt_ (sI σ7 15 0 ((σ7.1 15 0) + (1 : Int32))) fun (σ8 : Mem) =>
  some ((), σ8))))))
  else (
  bn (f_Mo_shift (v6 - (1 : Int32)) v6 σ) fun (_ : Unit) (σ10 : Mem) =>
  lt_ (v6 + (-1)) fun (x11 : Int32) =>
  some (.inl (x11, σ10)))
def f_Mo_insert  (v1 : Int32) (v2 : Int32) (v3 : Int32) (v4 : Int64) (σ : Mem) : Option (Unit × Mem) :=
  lt_ (σ.1 15 0) fun (x12 : Int32) =>
  loopF (fun (q : (Int32 × Mem)) => f_Mo_insert_L6 v1 v2 v3 v4 q.1 q.2) FU (x12, σ)
set_option maxHeartbeats 4000000 in
set_option maxRecDepth 100000 in
theorem c_Mo_insert (l : Launch) (g : Gw) (hg : wInj g) {v1 : Int32} {v2 : Int32} {v3 : Int32} {v4 : Int64} {σ σ0 : Mem} (h : f_Mo_insert v1 v2 v3 v4 σ = some ((), σ0)) : KV l yMo_insert cMo_insert 7 none 1 g [.ref (ad g 15), .int v1, .int v2, .int v3, .long v4] σ σ0 := by
  refine q_met g hg (own := "TermBenchModel") rfl rfl (Nat.le_of_ble_eq_true rfl) (fun p e s m args below meth c R Q cx hRk hr hQ H locs ls hP hS hl => ?_)
  have hx := cx.1
  have hb := cx.2.1
  have hown := cx.2.2.2.1
  have hts := cx.2.2.2.2.1
  have hl : lv_has ls 7 [(0, .ref (ad g 15)), (1, .int v1), (2, .int v2), (3, .int v3), (4, .long v4)] := hl
  unfold f_Mo_insert at h
  refine lv_aload_n hx hb dMo_insert_0 rfl (lv_at hl 0 rfl) ?_
  refine g_Mo_count cx hP  t_530 dMo_insert_1 ?_
  obtain ⟨x12, ex12, h⟩ := lt_some h
  refine q_nmi ex12 ?_
  refine lv_istore (lv' := [(6, .int x12), (0, .ref (ad g 15)), (1, .int v1), (2, .int v2), (3, .int v3), (4, .long v4)]) hx hb dMo_insert_4 hl (Nat.le_of_ble_eq_true rfl) rfl (fun ls hl => ?_)
  have L6 : ∀ (n : Nat) (v1 : Int32) (v2 : Int32) (v3 : Int32) (v4 : Int64) (v6 : Int32) (σ : Mem), loopF (fun (q : (Int32 × Mem)) => f_Mo_insert_L6 v1 v2 v3 v4 q.1 q.2) n (v6, σ) = some ((), σ0) → ∀ (H : Heap) (locs : List Loc) (ls : Array Slot), lv_has ls 7 [(0, .ref (ad g 15)), (1, .int v1), (2, .int v2), (3, .int v3), (4, .long v4), (6, .int v6)] → Wd g σ H → va_S (wA g) s.heap H locs → W p l e R s m args below meth c H locs 0 0 Q (F0 m 6 ls []) := by
    intro n
    induction n with
    | zero => intro v1 v2 v3 v4 v6 σ h; exact (loopF_zero h).elim
    | succ n ih6 =>
      intro v1 v2 v3 v4 v6 σ h H locs ls hl hP hS
      obtain ⟨o6, h, K6, E6⟩ := loopF_succ h
      have h : f_Mo_insert_L6 v1 v2 v3 v4 v6 σ = some o6 := h
      unfold f_Mo_insert_L6 at h
      refine lv_iload hx hb dMo_insert_6 (lv_at hl 5 rfl) ?_
      refine lv_iload_n hx hb dMo_insert_8 rfl (lv_at hl 1 rfl) ?_
      refine lv_icmp_le (tgt := 28) hx hb dMo_insert_9 (by decide) (fun hc => ?_) (fun hc => ?_)
      · replace h := if_t h hc
        obtain ⟨z1, h, ez1⟩ := inrM_some h
        rw [E6 z1 ez1] at h
        refine lv_aload_n hx hb dMo_insert_28 rfl (lv_at hl 0 rfl) ?_
        refine g_Mo_kinds cx hP  t_532 dMo_insert_29 ?_
        refine lv_iload_n hx hb dMo_insert_32 rfl (lv_at hl 1 rfl) ?_
        refine lv_iload_n hx hb dMo_insert_33 rfl (lv_at hl 2 rfl) ?_
        obtain ⟨b2, h⟩ := gd_some h
        obtain ⟨σ3, eσ3, h⟩ := lt_some h
        refine q_iast cx hP hS (by decide) (e_16 g) b2 dMo_insert_34 eσ3 (fun H locs hP hS => ?_)
        refine lv_aload_n hx hb dMo_insert_35 rfl (lv_at hl 0 rfl) ?_
        refine g_Mo_values cx hP  t_533 dMo_insert_36 ?_
        refine lv_iload_n hx hb dMo_insert_39 rfl (lv_at hl 1 rfl) ?_
        refine lv_iload_n hx hb dMo_insert_40 rfl (lv_at hl 3 rfl) ?_
        obtain ⟨b4, h⟩ := gd_some h
        obtain ⟨σ5, eσ5, h⟩ := lt_some h
        refine q_iast cx hP hS (by decide) (e_17 g) b4 dMo_insert_41 eσ5 (fun H locs hP hS => ?_)
        refine lv_aload_n hx hb dMo_insert_42 rfl (lv_at hl 0 rfl) ?_
        refine g_Mo_types cx hP  t_534 dMo_insert_43 ?_
        refine lv_iload_n hx hb dMo_insert_46 rfl (lv_at hl 1 rfl) ?_
        refine lv_lload hx hb dMo_insert_47 (lv_at hl 4 rfl) ?_
        obtain ⟨b6, h⟩ := gd_some h
        obtain ⟨σ7, eσ7, h⟩ := lt_some h
        refine q_last cx hP hS (by decide) (e_18 g) b6 dMo_insert_49 eσ7 (fun H locs hP hS => ?_)
        refine lv_aload_n hx hb dMo_insert_50 rfl (lv_at hl 0 rfl) ?_
        refine lv_dup hx hb dMo_insert_51 rfl ?_
        refine g_Mo_count cx hP  t_530 dMo_insert_52 ?_
        refine lv_iconst (v := 1) hx hb dMo_insert_55 (by decide) ?_
        refine lv_iadd hx hb dMo_insert_56 ?_
        obtain ⟨σ8, eσ8, h⟩ := lt_some h
        refine p_Mo_count cx hP hS t_530 dMo_insert_57 eσ8 (fun H locs hP hS => ?_)
        exact q_rv cx hr hP hS hQ h dMo_insert_60
      · replace h := if_f h hc
        refine lv_aload_n hx hb dMo_insert_12 rfl (lv_at hl 0 rfl) ?_
        refine lv_iload hx hb dMo_insert_13 (lv_at hl 5 rfl) ?_
        refine lv_iconst (v := 1) hx hb dMo_insert_15 (by decide) ?_
        refine lv_isub hx hb dMo_insert_16 ?_
        refine lv_iload hx hb dMo_insert_17 (lv_at hl 5 rfl) ?_
        obtain ⟨rh9, σ10, h9, h⟩ := bn_some h
        refine q_cVv (rest := []) (As := [.int (v6 - (1 : Int32)), .int v6]) cx hP hS hRk (c_Mo_shift l g hg h9) Y_Mo_shift V_Mo_shift t_716 (by decide) (by decide) (e_15 g _ _) rfl rfl hl.1 rfl (Nat.le_of_ble_eq_true rfl) dMo_insert_19 (fun H locs hP hS => ?_)
        obtain ⟨x11, ex11, h⟩ := lt_some h
        refine lv_iinc (lv' := [(6, .int x11), (0, .ref (ad g 15)), (1, .int v1), (2, .int v2), (3, .int v3), (4, .long v4)]) hx hb dMo_insert_22 hl (k := 5) rfl (q_inc ex11 (by decide)) (Nat.le_of_ble_eq_true rfl) rfl (fun ls hl => ?_)
        refine lv_goto (tgt := 6) hx hb dMo_insert_25 (by decide) ?_
        exact ih6 _ _ _ _ _ _ (K6 _ (Option.some.inj h).symm) _ _ _ (lv_sub hl [1, 2, 3, 4, 5, 0] rfl) hP hS
  exact L6 _ _ _ _ _ _ _ h _ _ _ (lv_sub hl [1, 2, 3, 4, 5, 0] rfl) hP hS
theorem dMo_takeOut_0 : decode cMo_takeOut 0 = .ok (.iload_n 2, 1) := by decide +kernel
theorem dMo_takeOut_1 : decode cMo_takeOut 1 = .ok (.istore_n 3, 1) := by decide +kernel
theorem dMo_takeOut_2 : decode cMo_takeOut 2 = .ok (.iload_n 3, 1) := by decide +kernel
theorem dMo_takeOut_3 : decode cMo_takeOut 3 = .ok (.aload_n 0, 1) := by decide +kernel
theorem dMo_takeOut_4 : decode cMo_takeOut 4 = .ok (.getfield 7, 3) := by decide +kernel
theorem dMo_takeOut_7 : decode cMo_takeOut 7 = .ok (.if_icmp .ge 19, 3) := by decide +kernel
theorem dMo_takeOut_10 : decode cMo_takeOut 10 = .ok (.aload_n 0, 1) := by decide +kernel
theorem dMo_takeOut_11 : decode cMo_takeOut 11 = .ok (.iload_n 3, 1) := by decide +kernel
theorem dMo_takeOut_12 : decode cMo_takeOut 12 = .ok (.iload_n 3, 1) := by decide +kernel
theorem dMo_takeOut_13 : decode cMo_takeOut 13 = .ok (.iload_n 2, 1) := by decide +kernel
theorem dMo_takeOut_14 : decode cMo_takeOut 14 = .ok (.iload_n 1, 1) := by decide +kernel
theorem dMo_takeOut_15 : decode cMo_takeOut 15 = .ok (.isub, 1) := by decide +kernel
theorem dMo_takeOut_16 : decode cMo_takeOut 16 = .ok (.isub, 1) := by decide +kernel
theorem dMo_takeOut_17 : decode cMo_takeOut 17 = .ok (.invokevirtual 119, 3) := by decide +kernel
theorem dMo_takeOut_20 : decode cMo_takeOut 20 = .ok (.iinc 3 1, 3) := by decide +kernel
theorem dMo_takeOut_23 : decode cMo_takeOut 23 = .ok (.goto (-21), 3) := by decide +kernel
theorem dMo_takeOut_26 : decode cMo_takeOut 26 = .ok (.aload_n 0, 1) := by decide +kernel
theorem dMo_takeOut_27 : decode cMo_takeOut 27 = .ok (.dup, 1) := by decide +kernel
theorem dMo_takeOut_28 : decode cMo_takeOut 28 = .ok (.getfield 7, 3) := by decide +kernel
theorem dMo_takeOut_31 : decode cMo_takeOut 31 = .ok (.iload_n 2, 1) := by decide +kernel
theorem dMo_takeOut_32 : decode cMo_takeOut 32 = .ok (.iload_n 1, 1) := by decide +kernel
theorem dMo_takeOut_33 : decode cMo_takeOut 33 = .ok (.isub, 1) := by decide +kernel
theorem dMo_takeOut_34 : decode cMo_takeOut 34 = .ok (.isub, 1) := by decide +kernel
theorem dMo_takeOut_35 : decode cMo_takeOut 35 = .ok (.putfield 7, 3) := by decide +kernel
theorem dMo_takeOut_38 : decode cMo_takeOut 38 = .ok (.return_, 1) := by decide +kernel
def f_Mo_takeOut_L2  (v1 : Int32) (v2 : Int32) (v3 : Int32) (σ : Mem) : Option ((Int32 × Mem) ⊕ (Unit × Mem)) :=
  if (σ.1 15 0) ≤ v3 then (
  inrM (lt_ (sI σ 15 0 ((σ.1 15 0) - (v2 - v1))) fun (σ2 : Mem) =>
  some ((), σ2)))
  else (
  bn (f_Mo_shift v3 (v3 - (v2 - v1)) σ) fun (_ : Unit) (σ4 : Mem) =>
  lt_ (v3 + 1) fun (x5 : Int32) =>
  some (.inl (x5, σ4)))
def f_Mo_takeOut  (v1 : Int32) (v2 : Int32) (σ : Mem) : Option (Unit × Mem) :=
  loopF (fun (q : (Int32 × Mem)) => f_Mo_takeOut_L2 v1 v2 q.1 q.2) FU (v2, σ)
set_option maxHeartbeats 4000000 in
set_option maxRecDepth 100000 in
theorem c_Mo_takeOut (l : Launch) (g : Gw) (hg : wInj g) {v1 : Int32} {v2 : Int32} {σ σ0 : Mem} (h : f_Mo_takeOut v1 v2 σ = some ((), σ0)) : KV l yMo_takeOut cMo_takeOut 4 none 1 g [.ref (ad g 15), .int v1, .int v2] σ σ0 := by
  refine q_met g hg (own := "TermBenchModel") rfl rfl (Nat.le_of_ble_eq_true rfl) (fun p e s m args below meth c R Q cx hRk hr hQ H locs ls hP hS hl => ?_)
  have hx := cx.1
  have hb := cx.2.1
  have hown := cx.2.2.2.1
  have hts := cx.2.2.2.2.1
  have hl : lv_has ls 4 [(0, .ref (ad g 15)), (1, .int v1), (2, .int v2)] := hl
  unfold f_Mo_takeOut at h
  refine lv_iload_n hx hb dMo_takeOut_0 rfl (lv_at hl 2 rfl) ?_
  refine lv_istore_n (lv' := [(3, .int v2), (0, .ref (ad g 15)), (1, .int v1), (2, .int v2)]) hx hb dMo_takeOut_1 rfl hl (Nat.le_of_ble_eq_true rfl) rfl (fun ls hl => ?_)
  have L2 : ∀ (n : Nat) (v1 : Int32) (v2 : Int32) (v3 : Int32) (σ : Mem), loopF (fun (q : (Int32 × Mem)) => f_Mo_takeOut_L2 v1 v2 q.1 q.2) n (v3, σ) = some ((), σ0) → ∀ (H : Heap) (locs : List Loc) (ls : Array Slot), lv_has ls 4 [(0, .ref (ad g 15)), (1, .int v1), (2, .int v2), (3, .int v3)] → Wd g σ H → va_S (wA g) s.heap H locs → W p l e R s m args below meth c H locs 0 0 Q (F0 m 2 ls []) := by
    intro n
    induction n with
    | zero => intro v1 v2 v3 σ h; exact (loopF_zero h).elim
    | succ n ih2 =>
      intro v1 v2 v3 σ h H locs ls hl hP hS
      obtain ⟨o2, h, K2, E2⟩ := loopF_succ h
      have h : f_Mo_takeOut_L2 v1 v2 v3 σ = some o2 := h
      unfold f_Mo_takeOut_L2 at h
      refine lv_iload_n hx hb dMo_takeOut_2 rfl (lv_at hl 3 rfl) ?_
      refine lv_aload_n hx hb dMo_takeOut_3 rfl (lv_at hl 0 rfl) ?_
      refine g_Mo_count cx hP  t_530 dMo_takeOut_4 ?_
      refine lv_icmp_ge (tgt := 26) hx hb dMo_takeOut_7 (by decide) (fun hc => ?_) (fun hc => ?_)
      · replace h := if_t h hc
        obtain ⟨z1, h, ez1⟩ := inrM_some h
        rw [E2 z1 ez1] at h
        refine lv_aload_n hx hb dMo_takeOut_26 rfl (lv_at hl 0 rfl) ?_
        refine lv_dup hx hb dMo_takeOut_27 rfl ?_
        refine g_Mo_count cx hP  t_530 dMo_takeOut_28 ?_
        refine lv_iload_n hx hb dMo_takeOut_31 rfl (lv_at hl 2 rfl) ?_
        refine lv_iload_n hx hb dMo_takeOut_32 rfl (lv_at hl 1 rfl) ?_
        refine lv_isub hx hb dMo_takeOut_33 ?_
        refine lv_isub hx hb dMo_takeOut_34 ?_
        obtain ⟨σ2, eσ2, h⟩ := lt_some h
        refine p_Mo_count cx hP hS t_530 dMo_takeOut_35 eσ2 (fun H locs hP hS => ?_)
        exact q_rv cx hr hP hS hQ h dMo_takeOut_38
      · replace h := if_f h hc
        refine lv_aload_n hx hb dMo_takeOut_10 rfl (lv_at hl 0 rfl) ?_
        refine lv_iload_n hx hb dMo_takeOut_11 rfl (lv_at hl 3 rfl) ?_
        refine lv_iload_n hx hb dMo_takeOut_12 rfl (lv_at hl 3 rfl) ?_
        refine lv_iload_n hx hb dMo_takeOut_13 rfl (lv_at hl 2 rfl) ?_
        refine lv_iload_n hx hb dMo_takeOut_14 rfl (lv_at hl 1 rfl) ?_
        refine lv_isub hx hb dMo_takeOut_15 ?_
        refine lv_isub hx hb dMo_takeOut_16 ?_
        obtain ⟨rh3, σ4, h3, h⟩ := bn_some h
        refine q_cVv (rest := []) (As := [.int v3, .int (v3 - (v2 - v1))]) cx hP hS hRk (c_Mo_shift l g hg h3) Y_Mo_shift V_Mo_shift t_716 (by decide) (by decide) (e_15 g _ _) rfl rfl hl.1 rfl (Nat.le_of_ble_eq_true rfl) dMo_takeOut_17 (fun H locs hP hS => ?_)
        obtain ⟨x5, ex5, h⟩ := lt_some h
        refine lv_iinc (lv' := [(3, .int x5), (0, .ref (ad g 15)), (1, .int v1), (2, .int v2)]) hx hb dMo_takeOut_20 hl (k := 3) rfl (q_inc ex5 (by decide)) (Nat.le_of_ble_eq_true rfl) rfl (fun ls hl => ?_)
        refine lv_goto (tgt := 2) hx hb dMo_takeOut_23 (by decide) ?_
        exact ih2 _ _ _ _ (K2 _ (Option.some.inj h).symm) _ _ _ (lv_sub hl [1, 2, 3, 0] rfl) hP hS
  exact L2 _ _ _ _ _ h _ _ _ (lv_sub hl [1, 2, 3, 0] rfl) hP hS
theorem dMo_save_0 : decode cMo_save 0 = .ok (.aload_n 0, 1) := by decide +kernel
theorem dMo_save_1 : decode cMo_save 1 = .ok (.getfield 24, 3) := by decide +kernel
theorem dMo_save_4 : decode cMo_save 4 = .ok (.iload_n 1, 1) := by decide +kernel
theorem dMo_save_5 : decode cMo_save 5 = .ok (.aload_n 0, 1) := by decide +kernel
theorem dMo_save_6 : decode cMo_save 6 = .ok (.getfield 7, 3) := by decide +kernel
theorem dMo_save_9 : decode cMo_save 9 = .ok (.iastore, 1) := by decide +kernel
theorem dMo_save_10 : decode cMo_save 10 = .ok (.aload_n 0, 1) := by decide +kernel
theorem dMo_save_11 : decode cMo_save 11 = .ok (.getfield 27, 3) := by decide +kernel
theorem dMo_save_14 : decode cMo_save 14 = .ok (.iload_n 1, 1) := by decide +kernel
theorem dMo_save_15 : decode cMo_save 15 = .ok (.aload_n 0, 1) := by decide +kernel
theorem dMo_save_16 : decode cMo_save 16 = .ok (.getfield 123, 3) := by decide +kernel
theorem dMo_save_19 : decode cMo_save 19 = .ok (.iastore, 1) := by decide +kernel
theorem dMo_save_20 : decode cMo_save 20 = .ok (.iconst 0, 1) := by decide +kernel
theorem dMo_save_21 : decode cMo_save 21 = .ok (.istore_n 2, 1) := by decide +kernel
theorem dMo_save_22 : decode cMo_save 22 = .ok (.iload_n 2, 1) := by decide +kernel
theorem dMo_save_23 : decode cMo_save 23 = .ok (.aload_n 0, 1) := by decide +kernel
theorem dMo_save_24 : decode cMo_save 24 = .ok (.getfield 7, 3) := by decide +kernel
theorem dMo_save_27 : decode cMo_save 27 = .ok (.if_icmp .ge 66, 3) := by decide +kernel
theorem dMo_save_30 : decode cMo_save 30 = .ok (.iload_n 2, 1) := by decide +kernel
theorem dMo_save_31 : decode cMo_save 31 = .ok (.bipush 40, 2) := by decide +kernel
theorem dMo_save_33 : decode cMo_save 33 = .ok (.if_icmp .ge 60, 3) := by decide +kernel
theorem dMo_save_36 : decode cMo_save 36 = .ok (.aload_n 0, 1) := by decide +kernel
theorem dMo_save_37 : decode cMo_save 37 = .ok (.getfield 30, 3) := by decide +kernel
theorem dMo_save_40 : decode cMo_save 40 = .ok (.bipush 40, 2) := by decide +kernel
theorem dMo_save_42 : decode cMo_save 42 = .ok (.iload_n 1, 1) := by decide +kernel
theorem dMo_save_43 : decode cMo_save 43 = .ok (.imul, 1) := by decide +kernel
theorem dMo_save_44 : decode cMo_save 44 = .ok (.iload_n 2, 1) := by decide +kernel
theorem dMo_save_45 : decode cMo_save 45 = .ok (.iadd, 1) := by decide +kernel
theorem dMo_save_46 : decode cMo_save 46 = .ok (.aload_n 0, 1) := by decide +kernel
theorem dMo_save_47 : decode cMo_save 47 = .ok (.getfield 13, 3) := by decide +kernel
theorem dMo_save_50 : decode cMo_save 50 = .ok (.iload_n 2, 1) := by decide +kernel
theorem dMo_save_51 : decode cMo_save 51 = .ok (.iaload, 1) := by decide +kernel
theorem dMo_save_52 : decode cMo_save 52 = .ok (.iastore, 1) := by decide +kernel
theorem dMo_save_53 : decode cMo_save 53 = .ok (.aload_n 0, 1) := by decide +kernel
theorem dMo_save_54 : decode cMo_save 54 = .ok (.getfield 33, 3) := by decide +kernel
theorem dMo_save_57 : decode cMo_save 57 = .ok (.bipush 40, 2) := by decide +kernel
theorem dMo_save_59 : decode cMo_save 59 = .ok (.iload_n 1, 1) := by decide +kernel
theorem dMo_save_60 : decode cMo_save 60 = .ok (.imul, 1) := by decide +kernel
theorem dMo_save_61 : decode cMo_save 61 = .ok (.iload_n 2, 1) := by decide +kernel
theorem dMo_save_62 : decode cMo_save 62 = .ok (.iadd, 1) := by decide +kernel
theorem dMo_save_63 : decode cMo_save 63 = .ok (.aload_n 0, 1) := by decide +kernel
theorem dMo_save_64 : decode cMo_save 64 = .ok (.getfield 17, 3) := by decide +kernel
theorem dMo_save_67 : decode cMo_save 67 = .ok (.iload_n 2, 1) := by decide +kernel
theorem dMo_save_68 : decode cMo_save 68 = .ok (.iaload, 1) := by decide +kernel
theorem dMo_save_69 : decode cMo_save 69 = .ok (.iastore, 1) := by decide +kernel
theorem dMo_save_70 : decode cMo_save 70 = .ok (.aload_n 0, 1) := by decide +kernel
theorem dMo_save_71 : decode cMo_save 71 = .ok (.getfield 36, 3) := by decide +kernel
theorem dMo_save_74 : decode cMo_save 74 = .ok (.bipush 40, 2) := by decide +kernel
theorem dMo_save_76 : decode cMo_save 76 = .ok (.iload_n 1, 1) := by decide +kernel
theorem dMo_save_77 : decode cMo_save 77 = .ok (.imul, 1) := by decide +kernel
theorem dMo_save_78 : decode cMo_save 78 = .ok (.iload_n 2, 1) := by decide +kernel
theorem dMo_save_79 : decode cMo_save 79 = .ok (.iadd, 1) := by decide +kernel
theorem dMo_save_80 : decode cMo_save 80 = .ok (.aload_n 0, 1) := by decide +kernel
theorem dMo_save_81 : decode cMo_save 81 = .ok (.getfield 20, 3) := by decide +kernel
theorem dMo_save_84 : decode cMo_save 84 = .ok (.iload_n 2, 1) := by decide +kernel
theorem dMo_save_85 : decode cMo_save 85 = .ok (.laload, 1) := by decide +kernel
theorem dMo_save_86 : decode cMo_save 86 = .ok (.lastore, 1) := by decide +kernel
theorem dMo_save_87 : decode cMo_save 87 = .ok (.iinc 2 1, 3) := by decide +kernel
theorem dMo_save_90 : decode cMo_save 90 = .ok (.goto (-68), 3) := by decide +kernel
theorem dMo_save_93 : decode cMo_save 93 = .ok (.return_, 1) := by decide +kernel
def f_Mo_save_L22  (v1 : Int32) (v2 : Int32) (σ : Mem) : Option ((Int32 × Mem) ⊕ (Unit × Mem)) :=
  if (σ.1 15 0) ≤ v2 then (
  inrM (some ((), σ)))
  else (
  if (40 : Int32) ≤ v2 then (
  inrM (some ((), σ)))
  else (
  gd (inb v2 48) (
  gd (inb (((40 : Int32) * v1) + v2) 1320) (lt_ (sI σ 21 (((40 : Int32) * v1) + v2).toNatClampNeg (σ.1 16 v2.toNatClampNeg)) fun (σ5 : Mem) =>
  gd (inb v2 48) (
  gd (inb (((40 : Int32) * v1) + v2) 1320) (lt_ (sI σ5 22 (((40 : Int32) * v1) + v2).toNatClampNeg (σ5.1 17 v2.toNatClampNeg)) fun (σ8 : Mem) =>
  gd (inb v2 48) (
  gd (inb (((40 : Int32) * v1) + v2) 1320) (lt_ (sL σ8 23 (((40 : Int32) * v1) + v2).toNatClampNeg (σ8.2 18 v2.toNatClampNeg)) fun (σ11 : Mem) =>
  lt_ (v2 + 1) fun (x12 : Int32) =>
  some (.inl (x12, σ11))))))))))
def f_Mo_save  (v1 : Int32) (σ : Mem) : Option (Unit × Mem) :=
  gd (inb v1 33) (lt_ (sI σ 19 v1.toNatClampNeg (σ.1 15 0)) fun (σ14 : Mem) =>
  gd (inb v1 33) (lt_ (sI σ14 20 v1.toNatClampNeg (σ14.1 15 1)) fun (σ16 : Mem) =>
  lt_ (0 : Int32) fun (x17 : Int32) =>
  loopF (fun (q : (Int32 × Mem)) => f_Mo_save_L22 v1 q.1 q.2) FU (x17, σ16)))
set_option maxHeartbeats 4000000 in
set_option maxRecDepth 100000 in
theorem c_Mo_save (l : Launch) (g : Gw) (hg : wInj g) {v1 : Int32} {σ σ0 : Mem} (h : f_Mo_save v1 σ = some ((), σ0)) : KV l yMo_save cMo_save 3 none 0 g [.ref (ad g 15), .int v1] σ σ0 := by
  refine q_met g hg (own := "TermBenchModel") rfl rfl (Nat.le_of_ble_eq_true rfl) (fun p e s m args below meth c R Q cx hRk hr hQ H locs ls hP hS hl => ?_)
  have hx := cx.1
  have hb := cx.2.1
  have hown := cx.2.2.2.1
  have hts := cx.2.2.2.2.1
  have hl : lv_has ls 3 [(0, .ref (ad g 15)), (1, .int v1)] := hl
  unfold f_Mo_save at h
  refine lv_aload_n hx hb dMo_save_0 rfl (lv_at hl 0 rfl) ?_
  refine g_Mo_counts cx hP  t_537 dMo_save_1 ?_
  refine lv_iload_n hx hb dMo_save_4 rfl (lv_at hl 1 rfl) ?_
  refine lv_aload_n hx hb dMo_save_5 rfl (lv_at hl 0 rfl) ?_
  refine g_Mo_count cx hP  t_530 dMo_save_6 ?_
  obtain ⟨b13, h⟩ := gd_some h
  obtain ⟨σ14, eσ14, h⟩ := lt_some h
  refine q_iast cx hP hS (by decide) (e_19 g) b13 dMo_save_9 eσ14 (fun H locs hP hS => ?_)
  refine lv_aload_n hx hb dMo_save_10 rfl (lv_at hl 0 rfl) ?_
  refine g_Mo_cursors cx hP  t_538 dMo_save_11 ?_
  refine lv_iload_n hx hb dMo_save_14 rfl (lv_at hl 1 rfl) ?_
  refine lv_aload_n hx hb dMo_save_15 rfl (lv_at hl 0 rfl) ?_
  refine g_Mo_cursor cx hP  t_531 dMo_save_16 ?_
  obtain ⟨b15, h⟩ := gd_some h
  obtain ⟨σ16, eσ16, h⟩ := lt_some h
  refine q_iast cx hP hS (by decide) (e_20 g) b15 dMo_save_19 eσ16 (fun H locs hP hS => ?_)
  refine lv_iconst (v := 0) hx hb dMo_save_20 (by decide) ?_
  obtain ⟨x17, ex17, h⟩ := lt_some h
  refine q_nmi ex17 ?_
  refine lv_istore_n (lv' := [(2, .int x17), (0, .ref (ad g 15)), (1, .int v1)]) hx hb dMo_save_21 rfl hl (Nat.le_of_ble_eq_true rfl) rfl (fun ls hl => ?_)
  have L22 : ∀ (n : Nat) (v1 : Int32) (v2 : Int32) (σ : Mem), loopF (fun (q : (Int32 × Mem)) => f_Mo_save_L22 v1 q.1 q.2) n (v2, σ) = some ((), σ0) → ∀ (H : Heap) (locs : List Loc) (ls : Array Slot), lv_has ls 3 [(0, .ref (ad g 15)), (1, .int v1), (2, .int v2)] → Wd g σ H → va_S (wA g) s.heap H locs → W p l e R s m args below meth c H locs 0 0 Q (F0 m 22 ls []) := by
    intro n
    induction n with
    | zero => intro v1 v2 σ h; exact (loopF_zero h).elim
    | succ n ih22 =>
      intro v1 v2 σ h H locs ls hl hP hS
      obtain ⟨o22, h, K22, E22⟩ := loopF_succ h
      have h : f_Mo_save_L22 v1 v2 σ = some o22 := h
      unfold f_Mo_save_L22 at h
      refine lv_iload_n hx hb dMo_save_22 rfl (lv_at hl 2 rfl) ?_
      refine lv_aload_n hx hb dMo_save_23 rfl (lv_at hl 0 rfl) ?_
      refine g_Mo_count cx hP  t_530 dMo_save_24 ?_
      refine lv_icmp_ge (tgt := 93) hx hb dMo_save_27 (by decide) (fun hc => ?_) (fun hc => ?_)
      · replace h := if_t h hc
        obtain ⟨z1, h, ez1⟩ := inrM_some h
        rw [E22 z1 ez1] at h
        exact q_rv cx hr hP hS hQ h dMo_save_93
      · replace h := if_f h hc
        refine lv_iload_n hx hb dMo_save_30 rfl (lv_at hl 2 rfl) ?_
        refine lv_bipush (v := 40) hx hb dMo_save_31 (by decide) ?_
        refine lv_icmp_ge (tgt := 93) hx hb dMo_save_33 (by decide) (fun hc => ?_) (fun hc => ?_)
        · replace h := if_t h hc
          obtain ⟨z2, h, ez2⟩ := inrM_some h
          rw [E22 z2 ez2] at h
          exact q_rv cx hr hP hS hQ h dMo_save_93
        · replace h := if_f h hc
          refine lv_aload_n hx hb dMo_save_36 rfl (lv_at hl 0 rfl) ?_
          refine g_Mo_oldKinds cx hP  t_539 dMo_save_37 ?_
          refine lv_bipush (v := 40) hx hb dMo_save_40 (by decide) ?_
          refine lv_iload_n hx hb dMo_save_42 rfl (lv_at hl 1 rfl) ?_
          refine lv_imul hx hb dMo_save_43 ?_
          refine lv_iload_n hx hb dMo_save_44 rfl (lv_at hl 2 rfl) ?_
          refine lv_iadd hx hb dMo_save_45 ?_
          refine lv_aload_n hx hb dMo_save_46 rfl (lv_at hl 0 rfl) ?_
          refine g_Mo_kinds cx hP  t_532 dMo_save_47 ?_
          refine lv_iload_n hx hb dMo_save_50 rfl (lv_at hl 2 rfl) ?_
          obtain ⟨b3, h⟩ := gd_some h
          refine q_iald cx hP (by decide) (e_16 g) b3 dMo_save_51 ?_
          obtain ⟨b4, h⟩ := gd_some h
          obtain ⟨σ5, eσ5, h⟩ := lt_some h
          refine q_iast cx hP hS (by decide) (e_21 g) b4 dMo_save_52 eσ5 (fun H locs hP hS => ?_)
          refine lv_aload_n hx hb dMo_save_53 rfl (lv_at hl 0 rfl) ?_
          refine g_Mo_oldValues cx hP  t_540 dMo_save_54 ?_
          refine lv_bipush (v := 40) hx hb dMo_save_57 (by decide) ?_
          refine lv_iload_n hx hb dMo_save_59 rfl (lv_at hl 1 rfl) ?_
          refine lv_imul hx hb dMo_save_60 ?_
          refine lv_iload_n hx hb dMo_save_61 rfl (lv_at hl 2 rfl) ?_
          refine lv_iadd hx hb dMo_save_62 ?_
          refine lv_aload_n hx hb dMo_save_63 rfl (lv_at hl 0 rfl) ?_
          refine g_Mo_values cx hP  t_533 dMo_save_64 ?_
          refine lv_iload_n hx hb dMo_save_67 rfl (lv_at hl 2 rfl) ?_
          obtain ⟨b6, h⟩ := gd_some h
          refine q_iald cx hP (by decide) (e_17 g) b6 dMo_save_68 ?_
          obtain ⟨b7, h⟩ := gd_some h
          obtain ⟨σ8, eσ8, h⟩ := lt_some h
          refine q_iast cx hP hS (by decide) (e_22 g) b7 dMo_save_69 eσ8 (fun H locs hP hS => ?_)
          refine lv_aload_n hx hb dMo_save_70 rfl (lv_at hl 0 rfl) ?_
          refine g_Mo_oldTypes cx hP  t_541 dMo_save_71 ?_
          refine lv_bipush (v := 40) hx hb dMo_save_74 (by decide) ?_
          refine lv_iload_n hx hb dMo_save_76 rfl (lv_at hl 1 rfl) ?_
          refine lv_imul hx hb dMo_save_77 ?_
          refine lv_iload_n hx hb dMo_save_78 rfl (lv_at hl 2 rfl) ?_
          refine lv_iadd hx hb dMo_save_79 ?_
          refine lv_aload_n hx hb dMo_save_80 rfl (lv_at hl 0 rfl) ?_
          refine g_Mo_types cx hP  t_534 dMo_save_81 ?_
          refine lv_iload_n hx hb dMo_save_84 rfl (lv_at hl 2 rfl) ?_
          obtain ⟨b9, h⟩ := gd_some h
          refine q_lald cx hP (by decide) (e_18 g) b9 dMo_save_85 ?_
          obtain ⟨b10, h⟩ := gd_some h
          obtain ⟨σ11, eσ11, h⟩ := lt_some h
          refine q_last cx hP hS (by decide) (e_23 g) b10 dMo_save_86 eσ11 (fun H locs hP hS => ?_)
          obtain ⟨x12, ex12, h⟩ := lt_some h
          refine lv_iinc (lv' := [(2, .int x12), (0, .ref (ad g 15)), (1, .int v1)]) hx hb dMo_save_87 hl (k := 2) rfl (q_inc ex12 (by decide)) (Nat.le_of_ble_eq_true rfl) rfl (fun ls hl => ?_)
          refine lv_goto (tgt := 22) hx hb dMo_save_90 (by decide) ?_
          exact ih22 _ _ _ (K22 _ (Option.some.inj h).symm) _ _ _ (lv_sub hl [1, 2, 0] rfl) hP hS
  exact L22 _ _ _ _ h _ _ _ (lv_sub hl [1, 2, 0] rfl) hP hS
theorem dMo_bring_0 : decode cMo_bring 0 = .ok (.aload_n 0, 1) := by decide +kernel
theorem dMo_bring_1 : decode cMo_bring 1 = .ok (.aload_n 0, 1) := by decide +kernel
theorem dMo_bring_2 : decode cMo_bring 2 = .ok (.getfield 24, 3) := by decide +kernel
theorem dMo_bring_5 : decode cMo_bring 5 = .ok (.iload_n 1, 1) := by decide +kernel
theorem dMo_bring_6 : decode cMo_bring 6 = .ok (.iaload, 1) := by decide +kernel
theorem dMo_bring_7 : decode cMo_bring 7 = .ok (.putfield 7, 3) := by decide +kernel
theorem dMo_bring_10 : decode cMo_bring 10 = .ok (.aload_n 0, 1) := by decide +kernel
theorem dMo_bring_11 : decode cMo_bring 11 = .ok (.aload_n 0, 1) := by decide +kernel
theorem dMo_bring_12 : decode cMo_bring 12 = .ok (.getfield 27, 3) := by decide +kernel
theorem dMo_bring_15 : decode cMo_bring 15 = .ok (.iload_n 1, 1) := by decide +kernel
theorem dMo_bring_16 : decode cMo_bring 16 = .ok (.iaload, 1) := by decide +kernel
theorem dMo_bring_17 : decode cMo_bring 17 = .ok (.putfield 123, 3) := by decide +kernel
theorem dMo_bring_20 : decode cMo_bring 20 = .ok (.iconst 0, 1) := by decide +kernel
theorem dMo_bring_21 : decode cMo_bring 21 = .ok (.istore_n 2, 1) := by decide +kernel
theorem dMo_bring_22 : decode cMo_bring 22 = .ok (.iload_n 2, 1) := by decide +kernel
theorem dMo_bring_23 : decode cMo_bring 23 = .ok (.aload_n 0, 1) := by decide +kernel
theorem dMo_bring_24 : decode cMo_bring 24 = .ok (.getfield 7, 3) := by decide +kernel
theorem dMo_bring_27 : decode cMo_bring 27 = .ok (.if_icmp .ge 60, 3) := by decide +kernel
theorem dMo_bring_30 : decode cMo_bring 30 = .ok (.aload_n 0, 1) := by decide +kernel
theorem dMo_bring_31 : decode cMo_bring 31 = .ok (.getfield 13, 3) := by decide +kernel
theorem dMo_bring_34 : decode cMo_bring 34 = .ok (.iload_n 2, 1) := by decide +kernel
theorem dMo_bring_35 : decode cMo_bring 35 = .ok (.aload_n 0, 1) := by decide +kernel
theorem dMo_bring_36 : decode cMo_bring 36 = .ok (.getfield 30, 3) := by decide +kernel
theorem dMo_bring_39 : decode cMo_bring 39 = .ok (.bipush 40, 2) := by decide +kernel
theorem dMo_bring_41 : decode cMo_bring 41 = .ok (.iload_n 1, 1) := by decide +kernel
theorem dMo_bring_42 : decode cMo_bring 42 = .ok (.imul, 1) := by decide +kernel
theorem dMo_bring_43 : decode cMo_bring 43 = .ok (.iload_n 2, 1) := by decide +kernel
theorem dMo_bring_44 : decode cMo_bring 44 = .ok (.iadd, 1) := by decide +kernel
theorem dMo_bring_45 : decode cMo_bring 45 = .ok (.iaload, 1) := by decide +kernel
theorem dMo_bring_46 : decode cMo_bring 46 = .ok (.iastore, 1) := by decide +kernel
theorem dMo_bring_47 : decode cMo_bring 47 = .ok (.aload_n 0, 1) := by decide +kernel
theorem dMo_bring_48 : decode cMo_bring 48 = .ok (.getfield 17, 3) := by decide +kernel
theorem dMo_bring_51 : decode cMo_bring 51 = .ok (.iload_n 2, 1) := by decide +kernel
theorem dMo_bring_52 : decode cMo_bring 52 = .ok (.aload_n 0, 1) := by decide +kernel
theorem dMo_bring_53 : decode cMo_bring 53 = .ok (.getfield 33, 3) := by decide +kernel
theorem dMo_bring_56 : decode cMo_bring 56 = .ok (.bipush 40, 2) := by decide +kernel
theorem dMo_bring_58 : decode cMo_bring 58 = .ok (.iload_n 1, 1) := by decide +kernel
theorem dMo_bring_59 : decode cMo_bring 59 = .ok (.imul, 1) := by decide +kernel
theorem dMo_bring_60 : decode cMo_bring 60 = .ok (.iload_n 2, 1) := by decide +kernel
theorem dMo_bring_61 : decode cMo_bring 61 = .ok (.iadd, 1) := by decide +kernel
theorem dMo_bring_62 : decode cMo_bring 62 = .ok (.iaload, 1) := by decide +kernel
theorem dMo_bring_63 : decode cMo_bring 63 = .ok (.iastore, 1) := by decide +kernel
theorem dMo_bring_64 : decode cMo_bring 64 = .ok (.aload_n 0, 1) := by decide +kernel
theorem dMo_bring_65 : decode cMo_bring 65 = .ok (.getfield 20, 3) := by decide +kernel
theorem dMo_bring_68 : decode cMo_bring 68 = .ok (.iload_n 2, 1) := by decide +kernel
theorem dMo_bring_69 : decode cMo_bring 69 = .ok (.aload_n 0, 1) := by decide +kernel
theorem dMo_bring_70 : decode cMo_bring 70 = .ok (.getfield 36, 3) := by decide +kernel
theorem dMo_bring_73 : decode cMo_bring 73 = .ok (.bipush 40, 2) := by decide +kernel
theorem dMo_bring_75 : decode cMo_bring 75 = .ok (.iload_n 1, 1) := by decide +kernel
theorem dMo_bring_76 : decode cMo_bring 76 = .ok (.imul, 1) := by decide +kernel
theorem dMo_bring_77 : decode cMo_bring 77 = .ok (.iload_n 2, 1) := by decide +kernel
theorem dMo_bring_78 : decode cMo_bring 78 = .ok (.iadd, 1) := by decide +kernel
theorem dMo_bring_79 : decode cMo_bring 79 = .ok (.laload, 1) := by decide +kernel
theorem dMo_bring_80 : decode cMo_bring 80 = .ok (.lastore, 1) := by decide +kernel
theorem dMo_bring_81 : decode cMo_bring 81 = .ok (.iinc 2 1, 3) := by decide +kernel
theorem dMo_bring_84 : decode cMo_bring 84 = .ok (.goto (-62), 3) := by decide +kernel
theorem dMo_bring_87 : decode cMo_bring 87 = .ok (.aload_n 0, 1) := by decide +kernel
theorem dMo_bring_88 : decode cMo_bring 88 = .ok (.iconst 0, 1) := by decide +kernel
theorem dMo_bring_89 : decode cMo_bring 89 = .ok (.putfield 126, 3) := by decide +kernel
theorem dMo_bring_92 : decode cMo_bring 92 = .ok (.aload_n 0, 1) := by decide +kernel
theorem dMo_bring_93 : decode cMo_bring 93 = .ok (.iconst 0, 1) := by decide +kernel
theorem dMo_bring_94 : decode cMo_bring 94 = .ok (.putfield 130, 3) := by decide +kernel
theorem dMo_bring_97 : decode cMo_bring 97 = .ok (.return_, 1) := by decide +kernel
def f_Mo_bring_L22  (v1 : Int32) (v2 : Int32) (σ : Mem) : Option ((Int32 × Mem) ⊕ (Unit × Mem)) :=
  if (σ.1 15 0) ≤ v2 then (
  inrM (lt_ (sI σ 15 12 (0 : Int32)) fun (σ2 : Mem) =>
  lt_ (sI σ2 15 16 (0 : Int32)) fun (σ3 : Mem) =>
  some ((), σ3)))
  else (
  gd (inb (((40 : Int32) * v1) + v2) 1320) (
  gd (inb v2 48) (lt_ (sI σ 16 v2.toNatClampNeg (σ.1 21 (((40 : Int32) * v1) + v2).toNatClampNeg)) fun (σ6 : Mem) =>
  gd (inb (((40 : Int32) * v1) + v2) 1320) (
  gd (inb v2 48) (lt_ (sI σ6 17 v2.toNatClampNeg (σ6.1 22 (((40 : Int32) * v1) + v2).toNatClampNeg)) fun (σ9 : Mem) =>
  gd (inb (((40 : Int32) * v1) + v2) 1320) (
  gd (inb v2 48) (lt_ (sL σ9 18 v2.toNatClampNeg (σ9.2 23 (((40 : Int32) * v1) + v2).toNatClampNeg)) fun (σ12 : Mem) =>
  lt_ (v2 + 1) fun (x13 : Int32) =>
  some (.inl (x13, σ12)))))))))
def f_Mo_bring  (v1 : Int32) (σ : Mem) : Option (Unit × Mem) :=
  gd (inb v1 33) (
  lt_ (sI σ 15 0 (σ.1 19 v1.toNatClampNeg)) fun (σ15 : Mem) =>
  gd (inb v1 33) (
  lt_ (sI σ15 15 1 (σ15.1 20 v1.toNatClampNeg)) fun (σ17 : Mem) =>
  lt_ (0 : Int32) fun (x18 : Int32) =>
  loopF (fun (q : (Int32 × Mem)) => f_Mo_bring_L22 v1 q.1 q.2) FU (x18, σ17)))
set_option maxHeartbeats 4000000 in
set_option maxRecDepth 100000 in
theorem c_Mo_bring (l : Launch) (g : Gw) (hg : wInj g) {v1 : Int32} {σ σ0 : Mem} (h : f_Mo_bring v1 σ = some ((), σ0)) : KV l yMo_bring cMo_bring 3 none 0 g [.ref (ad g 15), .int v1] σ σ0 := by
  refine q_met g hg (own := "TermBenchModel") rfl rfl (Nat.le_of_ble_eq_true rfl) (fun p e s m args below meth c R Q cx hRk hr hQ H locs ls hP hS hl => ?_)
  have hx := cx.1
  have hb := cx.2.1
  have hown := cx.2.2.2.1
  have hts := cx.2.2.2.2.1
  have hl : lv_has ls 3 [(0, .ref (ad g 15)), (1, .int v1)] := hl
  unfold f_Mo_bring at h
  refine lv_aload_n hx hb dMo_bring_0 rfl (lv_at hl 0 rfl) ?_
  refine lv_aload_n hx hb dMo_bring_1 rfl (lv_at hl 0 rfl) ?_
  refine g_Mo_counts cx hP  t_537 dMo_bring_2 ?_
  refine lv_iload_n hx hb dMo_bring_5 rfl (lv_at hl 1 rfl) ?_
  obtain ⟨b14, h⟩ := gd_some h
  refine q_iald cx hP (by decide) (e_19 g) b14 dMo_bring_6 ?_
  obtain ⟨σ15, eσ15, h⟩ := lt_some h
  refine p_Mo_count cx hP hS t_530 dMo_bring_7 eσ15 (fun H locs hP hS => ?_)
  refine lv_aload_n hx hb dMo_bring_10 rfl (lv_at hl 0 rfl) ?_
  refine lv_aload_n hx hb dMo_bring_11 rfl (lv_at hl 0 rfl) ?_
  refine g_Mo_cursors cx hP  t_538 dMo_bring_12 ?_
  refine lv_iload_n hx hb dMo_bring_15 rfl (lv_at hl 1 rfl) ?_
  obtain ⟨b16, h⟩ := gd_some h
  refine q_iald cx hP (by decide) (e_20 g) b16 dMo_bring_16 ?_
  obtain ⟨σ17, eσ17, h⟩ := lt_some h
  refine p_Mo_cursor cx hP hS t_531 dMo_bring_17 eσ17 (fun H locs hP hS => ?_)
  refine lv_iconst (v := 0) hx hb dMo_bring_20 (by decide) ?_
  obtain ⟨x18, ex18, h⟩ := lt_some h
  refine q_nmi ex18 ?_
  refine lv_istore_n (lv' := [(2, .int x18), (0, .ref (ad g 15)), (1, .int v1)]) hx hb dMo_bring_21 rfl hl (Nat.le_of_ble_eq_true rfl) rfl (fun ls hl => ?_)
  have L22 : ∀ (n : Nat) (v1 : Int32) (v2 : Int32) (σ : Mem), loopF (fun (q : (Int32 × Mem)) => f_Mo_bring_L22 v1 q.1 q.2) n (v2, σ) = some ((), σ0) → ∀ (H : Heap) (locs : List Loc) (ls : Array Slot), lv_has ls 3 [(0, .ref (ad g 15)), (1, .int v1), (2, .int v2)] → Wd g σ H → va_S (wA g) s.heap H locs → W p l e R s m args below meth c H locs 0 0 Q (F0 m 22 ls []) := by
    intro n
    induction n with
    | zero => intro v1 v2 σ h; exact (loopF_zero h).elim
    | succ n ih22 =>
      intro v1 v2 σ h H locs ls hl hP hS
      obtain ⟨o22, h, K22, E22⟩ := loopF_succ h
      have h : f_Mo_bring_L22 v1 v2 σ = some o22 := h
      unfold f_Mo_bring_L22 at h
      refine lv_iload_n hx hb dMo_bring_22 rfl (lv_at hl 2 rfl) ?_
      refine lv_aload_n hx hb dMo_bring_23 rfl (lv_at hl 0 rfl) ?_
      refine g_Mo_count cx hP  t_530 dMo_bring_24 ?_
      refine lv_icmp_ge (tgt := 87) hx hb dMo_bring_27 (by decide) (fun hc => ?_) (fun hc => ?_)
      · replace h := if_t h hc
        obtain ⟨z1, h, ez1⟩ := inrM_some h
        rw [E22 z1 ez1] at h
        refine lv_aload_n hx hb dMo_bring_87 rfl (lv_at hl 0 rfl) ?_
        refine lv_iconst (v := 0) hx hb dMo_bring_88 (by decide) ?_
        obtain ⟨σ2, eσ2, h⟩ := lt_some h
        refine p_Mo_typed cx hP hS t_542 dMo_bring_89 rfl rfl eσ2 (fun H locs hP hS => ?_)
        refine lv_aload_n hx hb dMo_bring_92 rfl (lv_at hl 0 rfl) ?_
        refine lv_iconst (v := 0) hx hb dMo_bring_93 (by decide) ?_
        obtain ⟨σ3, eσ3, h⟩ := lt_some h
        refine p_Mo_spelled cx hP hS t_546 dMo_bring_94 rfl rfl eσ3 (fun H locs hP hS => ?_)
        exact q_rv cx hr hP hS hQ h dMo_bring_97
      · replace h := if_f h hc
        refine lv_aload_n hx hb dMo_bring_30 rfl (lv_at hl 0 rfl) ?_
        refine g_Mo_kinds cx hP  t_532 dMo_bring_31 ?_
        refine lv_iload_n hx hb dMo_bring_34 rfl (lv_at hl 2 rfl) ?_
        refine lv_aload_n hx hb dMo_bring_35 rfl (lv_at hl 0 rfl) ?_
        refine g_Mo_oldKinds cx hP  t_539 dMo_bring_36 ?_
        refine lv_bipush (v := 40) hx hb dMo_bring_39 (by decide) ?_
        refine lv_iload_n hx hb dMo_bring_41 rfl (lv_at hl 1 rfl) ?_
        refine lv_imul hx hb dMo_bring_42 ?_
        refine lv_iload_n hx hb dMo_bring_43 rfl (lv_at hl 2 rfl) ?_
        refine lv_iadd hx hb dMo_bring_44 ?_
        obtain ⟨b4, h⟩ := gd_some h
        refine q_iald cx hP (by decide) (e_21 g) b4 dMo_bring_45 ?_
        obtain ⟨b5, h⟩ := gd_some h
        obtain ⟨σ6, eσ6, h⟩ := lt_some h
        refine q_iast cx hP hS (by decide) (e_16 g) b5 dMo_bring_46 eσ6 (fun H locs hP hS => ?_)
        refine lv_aload_n hx hb dMo_bring_47 rfl (lv_at hl 0 rfl) ?_
        refine g_Mo_values cx hP  t_533 dMo_bring_48 ?_
        refine lv_iload_n hx hb dMo_bring_51 rfl (lv_at hl 2 rfl) ?_
        refine lv_aload_n hx hb dMo_bring_52 rfl (lv_at hl 0 rfl) ?_
        refine g_Mo_oldValues cx hP  t_540 dMo_bring_53 ?_
        refine lv_bipush (v := 40) hx hb dMo_bring_56 (by decide) ?_
        refine lv_iload_n hx hb dMo_bring_58 rfl (lv_at hl 1 rfl) ?_
        refine lv_imul hx hb dMo_bring_59 ?_
        refine lv_iload_n hx hb dMo_bring_60 rfl (lv_at hl 2 rfl) ?_
        refine lv_iadd hx hb dMo_bring_61 ?_
        obtain ⟨b7, h⟩ := gd_some h
        refine q_iald cx hP (by decide) (e_22 g) b7 dMo_bring_62 ?_
        obtain ⟨b8, h⟩ := gd_some h
        obtain ⟨σ9, eσ9, h⟩ := lt_some h
        refine q_iast cx hP hS (by decide) (e_17 g) b8 dMo_bring_63 eσ9 (fun H locs hP hS => ?_)
        refine lv_aload_n hx hb dMo_bring_64 rfl (lv_at hl 0 rfl) ?_
        refine g_Mo_types cx hP  t_534 dMo_bring_65 ?_
        refine lv_iload_n hx hb dMo_bring_68 rfl (lv_at hl 2 rfl) ?_
        refine lv_aload_n hx hb dMo_bring_69 rfl (lv_at hl 0 rfl) ?_
        refine g_Mo_oldTypes cx hP  t_541 dMo_bring_70 ?_
        refine lv_bipush (v := 40) hx hb dMo_bring_73 (by decide) ?_
        refine lv_iload_n hx hb dMo_bring_75 rfl (lv_at hl 1 rfl) ?_
        refine lv_imul hx hb dMo_bring_76 ?_
        refine lv_iload_n hx hb dMo_bring_77 rfl (lv_at hl 2 rfl) ?_
        refine lv_iadd hx hb dMo_bring_78 ?_
        obtain ⟨b10, h⟩ := gd_some h
        refine q_lald cx hP (by decide) (e_23 g) b10 dMo_bring_79 ?_
        obtain ⟨b11, h⟩ := gd_some h
        obtain ⟨σ12, eσ12, h⟩ := lt_some h
        refine q_last cx hP hS (by decide) (e_18 g) b11 dMo_bring_80 eσ12 (fun H locs hP hS => ?_)
        obtain ⟨x13, ex13, h⟩ := lt_some h
        refine lv_iinc (lv' := [(2, .int x13), (0, .ref (ad g 15)), (1, .int v1)]) hx hb dMo_bring_81 hl (k := 2) rfl (q_inc ex13 (by decide)) (Nat.le_of_ble_eq_true rfl) rfl (fun ls hl => ?_)
        refine lv_goto (tgt := 22) hx hb dMo_bring_84 (by decide) ?_
        exact ih22 _ _ _ (K22 _ (Option.some.inj h).symm) _ _ _ (lv_sub hl [1, 2, 0] rfl) hP hS
  exact L22 _ _ _ _ h _ _ _ (lv_sub hl [1, 2, 0] rfl) hP hS
theorem dMo_move_0 : decode cMo_move 0 = .ok (.aload_n 0, 1) := by decide +kernel
theorem dMo_move_1 : decode cMo_move 1 = .ok (.getfield 24, 3) := by decide +kernel
theorem dMo_move_4 : decode cMo_move 4 = .ok (.iload_n 2, 1) := by decide +kernel
theorem dMo_move_5 : decode cMo_move 5 = .ok (.aload_n 0, 1) := by decide +kernel
theorem dMo_move_6 : decode cMo_move 6 = .ok (.getfield 24, 3) := by decide +kernel
theorem dMo_move_9 : decode cMo_move 9 = .ok (.iload_n 1, 1) := by decide +kernel
theorem dMo_move_10 : decode cMo_move 10 = .ok (.iaload, 1) := by decide +kernel
theorem dMo_move_11 : decode cMo_move 11 = .ok (.iastore, 1) := by decide +kernel
theorem dMo_move_12 : decode cMo_move 12 = .ok (.aload_n 0, 1) := by decide +kernel
theorem dMo_move_13 : decode cMo_move 13 = .ok (.getfield 27, 3) := by decide +kernel
theorem dMo_move_16 : decode cMo_move 16 = .ok (.iload_n 2, 1) := by decide +kernel
theorem dMo_move_17 : decode cMo_move 17 = .ok (.aload_n 0, 1) := by decide +kernel
theorem dMo_move_18 : decode cMo_move 18 = .ok (.getfield 27, 3) := by decide +kernel
theorem dMo_move_21 : decode cMo_move 21 = .ok (.iload_n 1, 1) := by decide +kernel
theorem dMo_move_22 : decode cMo_move 22 = .ok (.iaload, 1) := by decide +kernel
theorem dMo_move_23 : decode cMo_move 23 = .ok (.iastore, 1) := by decide +kernel
theorem dMo_move_24 : decode cMo_move 24 = .ok (.iconst 0, 1) := by decide +kernel
theorem dMo_move_25 : decode cMo_move 25 = .ok (.istore_n 3, 1) := by decide +kernel
theorem dMo_move_26 : decode cMo_move 26 = .ok (.iload_n 3, 1) := by decide +kernel
theorem dMo_move_27 : decode cMo_move 27 = .ok (.bipush 40, 2) := by decide +kernel
theorem dMo_move_29 : decode cMo_move 29 = .ok (.if_icmp .ge 75, 3) := by decide +kernel
theorem dMo_move_32 : decode cMo_move 32 = .ok (.aload_n 0, 1) := by decide +kernel
theorem dMo_move_33 : decode cMo_move 33 = .ok (.getfield 30, 3) := by decide +kernel
theorem dMo_move_36 : decode cMo_move 36 = .ok (.bipush 40, 2) := by decide +kernel
theorem dMo_move_38 : decode cMo_move 38 = .ok (.iload_n 2, 1) := by decide +kernel
theorem dMo_move_39 : decode cMo_move 39 = .ok (.imul, 1) := by decide +kernel
theorem dMo_move_40 : decode cMo_move 40 = .ok (.iload_n 3, 1) := by decide +kernel
theorem dMo_move_41 : decode cMo_move 41 = .ok (.iadd, 1) := by decide +kernel
theorem dMo_move_42 : decode cMo_move 42 = .ok (.aload_n 0, 1) := by decide +kernel
theorem dMo_move_43 : decode cMo_move 43 = .ok (.getfield 30, 3) := by decide +kernel
theorem dMo_move_46 : decode cMo_move 46 = .ok (.bipush 40, 2) := by decide +kernel
theorem dMo_move_48 : decode cMo_move 48 = .ok (.iload_n 1, 1) := by decide +kernel
theorem dMo_move_49 : decode cMo_move 49 = .ok (.imul, 1) := by decide +kernel
theorem dMo_move_50 : decode cMo_move 50 = .ok (.iload_n 3, 1) := by decide +kernel
theorem dMo_move_51 : decode cMo_move 51 = .ok (.iadd, 1) := by decide +kernel
theorem dMo_move_52 : decode cMo_move 52 = .ok (.iaload, 1) := by decide +kernel
theorem dMo_move_53 : decode cMo_move 53 = .ok (.iastore, 1) := by decide +kernel
theorem dMo_move_54 : decode cMo_move 54 = .ok (.aload_n 0, 1) := by decide +kernel
theorem dMo_move_55 : decode cMo_move 55 = .ok (.getfield 33, 3) := by decide +kernel
theorem dMo_move_58 : decode cMo_move 58 = .ok (.bipush 40, 2) := by decide +kernel
theorem dMo_move_60 : decode cMo_move 60 = .ok (.iload_n 2, 1) := by decide +kernel
theorem dMo_move_61 : decode cMo_move 61 = .ok (.imul, 1) := by decide +kernel
theorem dMo_move_62 : decode cMo_move 62 = .ok (.iload_n 3, 1) := by decide +kernel
theorem dMo_move_63 : decode cMo_move 63 = .ok (.iadd, 1) := by decide +kernel
theorem dMo_move_64 : decode cMo_move 64 = .ok (.aload_n 0, 1) := by decide +kernel
theorem dMo_move_65 : decode cMo_move 65 = .ok (.getfield 33, 3) := by decide +kernel
theorem dMo_move_68 : decode cMo_move 68 = .ok (.bipush 40, 2) := by decide +kernel
theorem dMo_move_70 : decode cMo_move 70 = .ok (.iload_n 1, 1) := by decide +kernel
theorem dMo_move_71 : decode cMo_move 71 = .ok (.imul, 1) := by decide +kernel
theorem dMo_move_72 : decode cMo_move 72 = .ok (.iload_n 3, 1) := by decide +kernel
theorem dMo_move_73 : decode cMo_move 73 = .ok (.iadd, 1) := by decide +kernel
theorem dMo_move_74 : decode cMo_move 74 = .ok (.iaload, 1) := by decide +kernel
theorem dMo_move_75 : decode cMo_move 75 = .ok (.iastore, 1) := by decide +kernel
theorem dMo_move_76 : decode cMo_move 76 = .ok (.aload_n 0, 1) := by decide +kernel
theorem dMo_move_77 : decode cMo_move 77 = .ok (.getfield 36, 3) := by decide +kernel
theorem dMo_move_80 : decode cMo_move 80 = .ok (.bipush 40, 2) := by decide +kernel
theorem dMo_move_82 : decode cMo_move 82 = .ok (.iload_n 2, 1) := by decide +kernel
theorem dMo_move_83 : decode cMo_move 83 = .ok (.imul, 1) := by decide +kernel
theorem dMo_move_84 : decode cMo_move 84 = .ok (.iload_n 3, 1) := by decide +kernel
theorem dMo_move_85 : decode cMo_move 85 = .ok (.iadd, 1) := by decide +kernel
theorem dMo_move_86 : decode cMo_move 86 = .ok (.aload_n 0, 1) := by decide +kernel
theorem dMo_move_87 : decode cMo_move 87 = .ok (.getfield 36, 3) := by decide +kernel
theorem dMo_move_90 : decode cMo_move 90 = .ok (.bipush 40, 2) := by decide +kernel
theorem dMo_move_92 : decode cMo_move 92 = .ok (.iload_n 1, 1) := by decide +kernel
theorem dMo_move_93 : decode cMo_move 93 = .ok (.imul, 1) := by decide +kernel
theorem dMo_move_94 : decode cMo_move 94 = .ok (.iload_n 3, 1) := by decide +kernel
theorem dMo_move_95 : decode cMo_move 95 = .ok (.iadd, 1) := by decide +kernel
theorem dMo_move_96 : decode cMo_move 96 = .ok (.laload, 1) := by decide +kernel
theorem dMo_move_97 : decode cMo_move 97 = .ok (.lastore, 1) := by decide +kernel
theorem dMo_move_98 : decode cMo_move 98 = .ok (.iinc 3 1, 3) := by decide +kernel
theorem dMo_move_101 : decode cMo_move 101 = .ok (.goto (-75), 3) := by decide +kernel
theorem dMo_move_104 : decode cMo_move 104 = .ok (.return_, 1) := by decide +kernel
def f_Mo_move_L26  (v1 : Int32) (v2 : Int32) (v3 : Int32) (σ : Mem) : Option ((Int32 × Mem) ⊕ (Unit × Mem)) :=
  if (40 : Int32) ≤ v3 then (
  inrM (some ((), σ)))
  else (
  gd (inb (((40 : Int32) * v1) + v3) 1320) (
  gd (inb (((40 : Int32) * v2) + v3) 1320) (lt_ (sI σ 21 (((40 : Int32) * v2) + v3).toNatClampNeg (σ.1 21 (((40 : Int32) * v1) + v3).toNatClampNeg)) fun (σ4 : Mem) =>
  gd (inb (((40 : Int32) * v1) + v3) 1320) (
  gd (inb (((40 : Int32) * v2) + v3) 1320) (lt_ (sI σ4 22 (((40 : Int32) * v2) + v3).toNatClampNeg (σ4.1 22 (((40 : Int32) * v1) + v3).toNatClampNeg)) fun (σ7 : Mem) =>
  gd (inb (((40 : Int32) * v1) + v3) 1320) (
  gd (inb (((40 : Int32) * v2) + v3) 1320) (lt_ (sL σ7 23 (((40 : Int32) * v2) + v3).toNatClampNeg (σ7.2 23 (((40 : Int32) * v1) + v3).toNatClampNeg)) fun (σ10 : Mem) =>
  lt_ (v3 + 1) fun (x11 : Int32) =>
  some (.inl (x11, σ10)))))))))
def f_Mo_move  (v1 : Int32) (v2 : Int32) (σ : Mem) : Option (Unit × Mem) :=
  gd (inb v1 33) (
  gd (inb v2 33) (lt_ (sI σ 19 v2.toNatClampNeg (σ.1 19 v1.toNatClampNeg)) fun (σ14 : Mem) =>
  gd (inb v1 33) (
  gd (inb v2 33) (lt_ (sI σ14 20 v2.toNatClampNeg (σ14.1 20 v1.toNatClampNeg)) fun (σ17 : Mem) =>
  lt_ (0 : Int32) fun (x18 : Int32) =>
  loopF (fun (q : (Int32 × Mem)) => f_Mo_move_L26 v1 v2 q.1 q.2) FU (x18, σ17)))))
set_option maxHeartbeats 4000000 in
set_option maxRecDepth 100000 in
theorem c_Mo_move (l : Launch) (g : Gw) (hg : wInj g) {v1 : Int32} {v2 : Int32} {σ σ0 : Mem} (h : f_Mo_move v1 v2 σ = some ((), σ0)) : KV l yMo_move cMo_move 4 none 0 g [.ref (ad g 15), .int v1, .int v2] σ σ0 := by
  refine q_met g hg (own := "TermBenchModel") rfl rfl (Nat.le_of_ble_eq_true rfl) (fun p e s m args below meth c R Q cx hRk hr hQ H locs ls hP hS hl => ?_)
  have hx := cx.1
  have hb := cx.2.1
  have hown := cx.2.2.2.1
  have hts := cx.2.2.2.2.1
  have hl : lv_has ls 4 [(0, .ref (ad g 15)), (1, .int v1), (2, .int v2)] := hl
  unfold f_Mo_move at h
  refine lv_aload_n hx hb dMo_move_0 rfl (lv_at hl 0 rfl) ?_
  refine g_Mo_counts cx hP  t_537 dMo_move_1 ?_
  refine lv_iload_n hx hb dMo_move_4 rfl (lv_at hl 2 rfl) ?_
  refine lv_aload_n hx hb dMo_move_5 rfl (lv_at hl 0 rfl) ?_
  refine g_Mo_counts cx hP  t_537 dMo_move_6 ?_
  refine lv_iload_n hx hb dMo_move_9 rfl (lv_at hl 1 rfl) ?_
  obtain ⟨b12, h⟩ := gd_some h
  refine q_iald cx hP (by decide) (e_19 g) b12 dMo_move_10 ?_
  obtain ⟨b13, h⟩ := gd_some h
  obtain ⟨σ14, eσ14, h⟩ := lt_some h
  refine q_iast cx hP hS (by decide) (e_19 g) b13 dMo_move_11 eσ14 (fun H locs hP hS => ?_)
  refine lv_aload_n hx hb dMo_move_12 rfl (lv_at hl 0 rfl) ?_
  refine g_Mo_cursors cx hP  t_538 dMo_move_13 ?_
  refine lv_iload_n hx hb dMo_move_16 rfl (lv_at hl 2 rfl) ?_
  refine lv_aload_n hx hb dMo_move_17 rfl (lv_at hl 0 rfl) ?_
  refine g_Mo_cursors cx hP  t_538 dMo_move_18 ?_
  refine lv_iload_n hx hb dMo_move_21 rfl (lv_at hl 1 rfl) ?_
  obtain ⟨b15, h⟩ := gd_some h
  refine q_iald cx hP (by decide) (e_20 g) b15 dMo_move_22 ?_
  obtain ⟨b16, h⟩ := gd_some h
  obtain ⟨σ17, eσ17, h⟩ := lt_some h
  refine q_iast cx hP hS (by decide) (e_20 g) b16 dMo_move_23 eσ17 (fun H locs hP hS => ?_)
  refine lv_iconst (v := 0) hx hb dMo_move_24 (by decide) ?_
  obtain ⟨x18, ex18, h⟩ := lt_some h
  refine q_nmi ex18 ?_
  refine lv_istore_n (lv' := [(3, .int x18), (0, .ref (ad g 15)), (1, .int v1), (2, .int v2)]) hx hb dMo_move_25 rfl hl (Nat.le_of_ble_eq_true rfl) rfl (fun ls hl => ?_)
  have L26 : ∀ (n : Nat) (v1 : Int32) (v2 : Int32) (v3 : Int32) (σ : Mem), loopF (fun (q : (Int32 × Mem)) => f_Mo_move_L26 v1 v2 q.1 q.2) n (v3, σ) = some ((), σ0) → ∀ (H : Heap) (locs : List Loc) (ls : Array Slot), lv_has ls 4 [(0, .ref (ad g 15)), (1, .int v1), (2, .int v2), (3, .int v3)] → Wd g σ H → va_S (wA g) s.heap H locs → W p l e R s m args below meth c H locs 0 0 Q (F0 m 26 ls []) := by
    intro n
    induction n with
    | zero => intro v1 v2 v3 σ h; exact (loopF_zero h).elim
    | succ n ih26 =>
      intro v1 v2 v3 σ h H locs ls hl hP hS
      obtain ⟨o26, h, K26, E26⟩ := loopF_succ h
      have h : f_Mo_move_L26 v1 v2 v3 σ = some o26 := h
      unfold f_Mo_move_L26 at h
      refine lv_iload_n hx hb dMo_move_26 rfl (lv_at hl 3 rfl) ?_
      refine lv_bipush (v := 40) hx hb dMo_move_27 (by decide) ?_
      refine lv_icmp_ge (tgt := 104) hx hb dMo_move_29 (by decide) (fun hc => ?_) (fun hc => ?_)
      · replace h := if_t h hc
        obtain ⟨z1, h, ez1⟩ := inrM_some h
        rw [E26 z1 ez1] at h
        exact q_rv cx hr hP hS hQ h dMo_move_104
      · replace h := if_f h hc
        refine lv_aload_n hx hb dMo_move_32 rfl (lv_at hl 0 rfl) ?_
        refine g_Mo_oldKinds cx hP  t_539 dMo_move_33 ?_
        refine lv_bipush (v := 40) hx hb dMo_move_36 (by decide) ?_
        refine lv_iload_n hx hb dMo_move_38 rfl (lv_at hl 2 rfl) ?_
        refine lv_imul hx hb dMo_move_39 ?_
        refine lv_iload_n hx hb dMo_move_40 rfl (lv_at hl 3 rfl) ?_
        refine lv_iadd hx hb dMo_move_41 ?_
        refine lv_aload_n hx hb dMo_move_42 rfl (lv_at hl 0 rfl) ?_
        refine g_Mo_oldKinds cx hP  t_539 dMo_move_43 ?_
        refine lv_bipush (v := 40) hx hb dMo_move_46 (by decide) ?_
        refine lv_iload_n hx hb dMo_move_48 rfl (lv_at hl 1 rfl) ?_
        refine lv_imul hx hb dMo_move_49 ?_
        refine lv_iload_n hx hb dMo_move_50 rfl (lv_at hl 3 rfl) ?_
        refine lv_iadd hx hb dMo_move_51 ?_
        obtain ⟨b2, h⟩ := gd_some h
        refine q_iald cx hP (by decide) (e_21 g) b2 dMo_move_52 ?_
        obtain ⟨b3, h⟩ := gd_some h
        obtain ⟨σ4, eσ4, h⟩ := lt_some h
        refine q_iast cx hP hS (by decide) (e_21 g) b3 dMo_move_53 eσ4 (fun H locs hP hS => ?_)
        refine lv_aload_n hx hb dMo_move_54 rfl (lv_at hl 0 rfl) ?_
        refine g_Mo_oldValues cx hP  t_540 dMo_move_55 ?_
        refine lv_bipush (v := 40) hx hb dMo_move_58 (by decide) ?_
        refine lv_iload_n hx hb dMo_move_60 rfl (lv_at hl 2 rfl) ?_
        refine lv_imul hx hb dMo_move_61 ?_
        refine lv_iload_n hx hb dMo_move_62 rfl (lv_at hl 3 rfl) ?_
        refine lv_iadd hx hb dMo_move_63 ?_
        refine lv_aload_n hx hb dMo_move_64 rfl (lv_at hl 0 rfl) ?_
        refine g_Mo_oldValues cx hP  t_540 dMo_move_65 ?_
        refine lv_bipush (v := 40) hx hb dMo_move_68 (by decide) ?_
        refine lv_iload_n hx hb dMo_move_70 rfl (lv_at hl 1 rfl) ?_
        refine lv_imul hx hb dMo_move_71 ?_
        refine lv_iload_n hx hb dMo_move_72 rfl (lv_at hl 3 rfl) ?_
        refine lv_iadd hx hb dMo_move_73 ?_
        obtain ⟨b5, h⟩ := gd_some h
        refine q_iald cx hP (by decide) (e_22 g) b5 dMo_move_74 ?_
        obtain ⟨b6, h⟩ := gd_some h
        obtain ⟨σ7, eσ7, h⟩ := lt_some h
        refine q_iast cx hP hS (by decide) (e_22 g) b6 dMo_move_75 eσ7 (fun H locs hP hS => ?_)
        refine lv_aload_n hx hb dMo_move_76 rfl (lv_at hl 0 rfl) ?_
        refine g_Mo_oldTypes cx hP  t_541 dMo_move_77 ?_
        refine lv_bipush (v := 40) hx hb dMo_move_80 (by decide) ?_
        refine lv_iload_n hx hb dMo_move_82 rfl (lv_at hl 2 rfl) ?_
        refine lv_imul hx hb dMo_move_83 ?_
        refine lv_iload_n hx hb dMo_move_84 rfl (lv_at hl 3 rfl) ?_
        refine lv_iadd hx hb dMo_move_85 ?_
        refine lv_aload_n hx hb dMo_move_86 rfl (lv_at hl 0 rfl) ?_
        refine g_Mo_oldTypes cx hP  t_541 dMo_move_87 ?_
        refine lv_bipush (v := 40) hx hb dMo_move_90 (by decide) ?_
        refine lv_iload_n hx hb dMo_move_92 rfl (lv_at hl 1 rfl) ?_
        refine lv_imul hx hb dMo_move_93 ?_
        refine lv_iload_n hx hb dMo_move_94 rfl (lv_at hl 3 rfl) ?_
        refine lv_iadd hx hb dMo_move_95 ?_
        obtain ⟨b8, h⟩ := gd_some h
        refine q_lald cx hP (by decide) (e_23 g) b8 dMo_move_96 ?_
        obtain ⟨b9, h⟩ := gd_some h
        obtain ⟨σ10, eσ10, h⟩ := lt_some h
        refine q_last cx hP hS (by decide) (e_23 g) b9 dMo_move_97 eσ10 (fun H locs hP hS => ?_)
        obtain ⟨x11, ex11, h⟩ := lt_some h
        refine lv_iinc (lv' := [(3, .int x11), (0, .ref (ad g 15)), (1, .int v1), (2, .int v2)]) hx hb dMo_move_98 hl (k := 3) rfl (q_inc ex11 (by decide)) (Nat.le_of_ble_eq_true rfl) rfl (fun ls hl => ?_)
        refine lv_goto (tgt := 26) hx hb dMo_move_101 (by decide) ?_
        exact ih26 _ _ _ _ (K26 _ (Option.some.inj h).symm) _ _ _ (lv_sub hl [1, 2, 3, 0] rfl) hP hS
  exact L26 _ _ _ _ _ h _ _ _ (lv_sub hl [1, 2, 3, 0] rfl) hP hS
theorem dMo_begin_0 : decode cMo_begin 0 = .ok (.aload_n 0, 1) := by decide +kernel
theorem dMo_begin_1 : decode cMo_begin 1 = .ok (.bipush 32, 2) := by decide +kernel
theorem dMo_begin_3 : decode cMo_begin 3 = .ok (.invokevirtual 133, 3) := by decide +kernel
theorem dMo_begin_6 : decode cMo_begin 6 = .ok (.return_, 1) := by decide +kernel
def f_Mo_begin   (σ : Mem) : Option (Unit × Mem) :=
  bn (f_Mo_save (32 : Int32) σ) fun (_ : Unit) (σ2 : Mem) =>
  some ((), σ2)
set_option maxHeartbeats 4000000 in
set_option maxRecDepth 100000 in
theorem c_Mo_begin (l : Launch) (g : Gw) (hg : wInj g) {σ σ0 : Mem} (h : f_Mo_begin σ = some ((), σ0)) : KV l yMo_begin cMo_begin 1 none 1 g [.ref (ad g 15)] σ σ0 := by
  refine q_met g hg (own := "TermBenchModel") rfl rfl (Nat.le_of_ble_eq_true rfl) (fun p e s m args below meth c R Q cx hRk hr hQ H locs ls hP hS hl => ?_)
  have hx := cx.1
  have hb := cx.2.1
  have hown := cx.2.2.2.1
  have hts := cx.2.2.2.2.1
  have hl : lv_has ls 1 [(0, .ref (ad g 15))] := hl
  unfold f_Mo_begin at h
  refine lv_aload_n hx hb dMo_begin_0 rfl (lv_at hl 0 rfl) ?_
  refine lv_bipush (v := 32) hx hb dMo_begin_1 (by decide) ?_
  obtain ⟨rh1, σ2, h1, h⟩ := bn_some h
  refine q_cVv (rest := []) (As := [.int (32 : Int32)]) cx hP hS hRk (c_Mo_save l g hg h1) Y_Mo_save V_Mo_save t_661 (by decide) (by decide) (e_15 g _ _) rfl rfl hl.1 rfl (Nat.le_of_ble_eq_true rfl) dMo_begin_3 (fun H locs hP hS => ?_)
  exact q_rv cx hr hP hS hQ h dMo_begin_6
theorem dMo_done_0 : decode cMo_done 0 = .ok (.aload_n 0, 1) := by decide +kernel
theorem dMo_done_1 : decode cMo_done 1 = .ok (.getfield 7, 3) := by decide +kernel
theorem dMo_done_4 : decode cMo_done 4 = .ok (.bipush 40, 2) := by decide +kernel
theorem dMo_done_6 : decode cMo_done 6 = .ok (.if_icmp .gt 7, 3) := by decide +kernel
theorem dMo_done_9 : decode cMo_done 9 = .ok (.iconst 1, 1) := by decide +kernel
theorem dMo_done_10 : decode cMo_done 10 = .ok (.goto 4, 3) := by decide +kernel
theorem dMo_done_13 : decode cMo_done 13 = .ok (.iconst 0, 1) := by decide +kernel
theorem dMo_done_14 : decode cMo_done 14 = .ok (.istore_n 2, 1) := by decide +kernel
theorem dMo_done_15 : decode cMo_done 15 = .ok (.iconst 0, 1) := by decide +kernel
theorem dMo_done_16 : decode cMo_done 16 = .ok (.istore_n 3, 1) := by decide +kernel
theorem dMo_done_17 : decode cMo_done 17 = .ok (.iload_n 3, 1) := by decide +kernel
theorem dMo_done_18 : decode cMo_done 18 = .ok (.aload_n 0, 1) := by decide +kernel
theorem dMo_done_19 : decode cMo_done 19 = .ok (.getfield 7, 3) := by decide +kernel
theorem dMo_done_22 : decode cMo_done 22 = .ok (.if_icmp .ge 29, 3) := by decide +kernel
theorem dMo_done_25 : decode cMo_done 25 = .ok (.iload_n 2, 1) := by decide +kernel
theorem dMo_done_26 : decode cMo_done 26 = .ok (.ifCond .eq 25, 3) := by decide +kernel
theorem dMo_done_29 : decode cMo_done 29 = .ok (.aload_n 0, 1) := by decide +kernel
theorem dMo_done_30 : decode cMo_done 30 = .ok (.iload_n 3, 1) := by decide +kernel
theorem dMo_done_31 : decode cMo_done 31 = .ok (.invokevirtual 137, 3) := by decide +kernel
theorem dMo_done_34 : decode cMo_done 34 = .ok (.bipush 12, 2) := by decide +kernel
theorem dMo_done_36 : decode cMo_done 36 = .ok (.if_icmp .gt 7, 3) := by decide +kernel
theorem dMo_done_39 : decode cMo_done 39 = .ok (.iconst 1, 1) := by decide +kernel
theorem dMo_done_40 : decode cMo_done 40 = .ok (.goto 4, 3) := by decide +kernel
theorem dMo_done_43 : decode cMo_done 43 = .ok (.iconst 0, 1) := by decide +kernel
theorem dMo_done_44 : decode cMo_done 44 = .ok (.istore_n 2, 1) := by decide +kernel
theorem dMo_done_45 : decode cMo_done 45 = .ok (.iinc 3 1, 3) := by decide +kernel
theorem dMo_done_48 : decode cMo_done 48 = .ok (.goto (-31), 3) := by decide +kernel
theorem dMo_done_51 : decode cMo_done 51 = .ok (.iload_n 2, 1) := by decide +kernel
theorem dMo_done_52 : decode cMo_done 52 = .ok (.ifCond .ne 11, 3) := by decide +kernel
theorem dMo_done_55 : decode cMo_done 55 = .ok (.aload_n 0, 1) := by decide +kernel
theorem dMo_done_56 : decode cMo_done 56 = .ok (.bipush 32, 2) := by decide +kernel
theorem dMo_done_58 : decode cMo_done 58 = .ok (.invokevirtual 140, 3) := by decide +kernel
theorem dMo_done_61 : decode cMo_done 61 = .ok (.iconst 0, 1) := by decide +kernel
theorem dMo_done_62 : decode cMo_done 62 = .ok (.ireturn, 1) := by decide +kernel
theorem dMo_done_63 : decode cMo_done 63 = .ok (.aload_n 0, 1) := by decide +kernel
theorem dMo_done_64 : decode cMo_done 64 = .ok (.getfield 143, 3) := by decide +kernel
theorem dMo_done_67 : decode cMo_done 67 = .ok (.bipush 16, 2) := by decide +kernel
theorem dMo_done_69 : decode cMo_done 69 = .ok (.if_icmp .ne 35, 3) := by decide +kernel
theorem dMo_done_72 : decode cMo_done 72 = .ok (.iconst 1, 1) := by decide +kernel
theorem dMo_done_73 : decode cMo_done 73 = .ok (.istore_n 3, 1) := by decide +kernel
theorem dMo_done_74 : decode cMo_done 74 = .ok (.iload_n 3, 1) := by decide +kernel
theorem dMo_done_75 : decode cMo_done 75 = .ok (.bipush 16, 2) := by decide +kernel
theorem dMo_done_77 : decode cMo_done 77 = .ok (.if_icmp .ge 17, 3) := by decide +kernel
theorem dMo_done_80 : decode cMo_done 80 = .ok (.aload_n 0, 1) := by decide +kernel
theorem dMo_done_81 : decode cMo_done 81 = .ok (.iload_n 3, 1) := by decide +kernel
theorem dMo_done_82 : decode cMo_done 82 = .ok (.iload_n 3, 1) := by decide +kernel
theorem dMo_done_83 : decode cMo_done 83 = .ok (.iconst 1, 1) := by decide +kernel
theorem dMo_done_84 : decode cMo_done 84 = .ok (.isub, 1) := by decide +kernel
theorem dMo_done_85 : decode cMo_done 85 = .ok (.invokevirtual 146, 3) := by decide +kernel
theorem dMo_done_88 : decode cMo_done 88 = .ok (.iinc 3 1, 3) := by decide +kernel
theorem dMo_done_91 : decode cMo_done 91 = .ok (.goto (-17), 3) := by decide +kernel
theorem dMo_done_94 : decode cMo_done 94 = .ok (.aload_n 0, 1) := by decide +kernel
theorem dMo_done_95 : decode cMo_done 95 = .ok (.dup, 1) := by decide +kernel
theorem dMo_done_96 : decode cMo_done 96 = .ok (.getfield 143, 3) := by decide +kernel
theorem dMo_done_99 : decode cMo_done 99 = .ok (.iconst 1, 1) := by decide +kernel
theorem dMo_done_100 : decode cMo_done 100 = .ok (.isub, 1) := by decide +kernel
theorem dMo_done_101 : decode cMo_done 101 = .ok (.putfield 143, 3) := by decide +kernel
theorem dMo_done_104 : decode cMo_done 104 = .ok (.aload_n 0, 1) := by decide +kernel
theorem dMo_done_105 : decode cMo_done 105 = .ok (.bipush 32, 2) := by decide +kernel
theorem dMo_done_107 : decode cMo_done 107 = .ok (.aload_n 0, 1) := by decide +kernel
theorem dMo_done_108 : decode cMo_done 108 = .ok (.getfield 143, 3) := by decide +kernel
theorem dMo_done_111 : decode cMo_done 111 = .ok (.invokevirtual 146, 3) := by decide +kernel
theorem dMo_done_114 : decode cMo_done 114 = .ok (.aload_n 0, 1) := by decide +kernel
theorem dMo_done_115 : decode cMo_done 115 = .ok (.dup, 1) := by decide +kernel
theorem dMo_done_116 : decode cMo_done 116 = .ok (.getfield 143, 3) := by decide +kernel
theorem dMo_done_119 : decode cMo_done 119 = .ok (.iconst 1, 1) := by decide +kernel
theorem dMo_done_120 : decode cMo_done 120 = .ok (.iadd, 1) := by decide +kernel
theorem dMo_done_121 : decode cMo_done 121 = .ok (.putfield 143, 3) := by decide +kernel
theorem dMo_done_124 : decode cMo_done 124 = .ok (.aload_n 0, 1) := by decide +kernel
theorem dMo_done_125 : decode cMo_done 125 = .ok (.iconst 0, 1) := by decide +kernel
theorem dMo_done_126 : decode cMo_done 126 = .ok (.putfield 149, 3) := by decide +kernel
theorem dMo_done_129 : decode cMo_done 129 = .ok (.aload_n 0, 1) := by decide +kernel
theorem dMo_done_130 : decode cMo_done 130 = .ok (.iload_n 1, 1) := by decide +kernel
theorem dMo_done_131 : decode cMo_done 131 = .ok (.putfield 123, 3) := by decide +kernel
theorem dMo_done_134 : decode cMo_done 134 = .ok (.aload_n 0, 1) := by decide +kernel
theorem dMo_done_135 : decode cMo_done 135 = .ok (.iconst 0, 1) := by decide +kernel
theorem dMo_done_136 : decode cMo_done 136 = .ok (.putfield 126, 3) := by decide +kernel
theorem dMo_done_139 : decode cMo_done 139 = .ok (.aload_n 0, 1) := by decide +kernel
theorem dMo_done_140 : decode cMo_done 140 = .ok (.iconst 0, 1) := by decide +kernel
theorem dMo_done_141 : decode cMo_done 141 = .ok (.putfield 130, 3) := by decide +kernel
theorem dMo_done_144 : decode cMo_done 144 = .ok (.iconst 1, 1) := by decide +kernel
theorem dMo_done_145 : decode cMo_done 145 = .ok (.ireturn, 1) := by decide +kernel
def f_Mo_done_J104  (v1 : Int32) (v2 : Int32) (v3 : Int32) (σ : Mem) : Option (Int32 × Mem) :=
  bn (f_Mo_move (32 : Int32) (σ.1 15 5) σ) fun (_ : Unit) (σ2 : Mem) =>
  lt_ (sI σ2 15 5 ((σ2.1 15 5) + (1 : Int32))) fun (σ3 : Mem) =>
  lt_ (sI σ3 15 6 (0 : Int32)) fun (σ4 : Mem) =>
  lt_ (sI σ4 15 1 v1) fun (σ5 : Mem) =>
  lt_ (sI σ5 15 12 (0 : Int32)) fun (σ6 : Mem) =>
  lt_ (sI σ6 15 16 (0 : Int32)) fun (σ7 : Mem) =>
  some ((1 : Int32), σ7)
def f_Mo_done_L74  (v1 : Int32) (v2 : Int32) (v3 : Int32) (σ : Mem) : Option ((Int32 × Mem) ⊕ (Int32 × Mem)) :=
  if (16 : Int32) ≤ v3 then (
  inrM (lt_ (sI σ 15 5 ((σ.1 15 5) - (1 : Int32))) fun (σ9 : Mem) =>
  f_Mo_done_J104 v1 v2 v3 σ9))
  else (
  bn (f_Mo_move v3 (v3 - (1 : Int32)) σ) fun (_ : Unit) (σ11 : Mem) =>
  lt_ (v3 + 1) fun (x12 : Int32) =>
  some (.inl (x12, σ11)))
def f_Mo_done_J51  (v1 : Int32) (v2 : Int32) (v3 : Int32) (σ : Mem) : Option (Int32 × Mem) :=
  if v2 = 0 then (
  bn (f_Mo_bring (32 : Int32) σ) fun (_ : Unit) (σ15 : Mem) =>
  some ((0 : Int32), σ15))
  else (
  if (σ.1 15 5) = (16 : Int32) then (
  lt_ (1 : Int32) fun (x13 : Int32) =>
  loopF (fun (q : (Int32 × Mem)) => f_Mo_done_L74 v1 v2 q.1 q.2) FU (x13, σ))
  else (
  f_Mo_done_J104 v1 v2 v3 σ))
def f_Mo_done_J44  (v1 : Int32) (v2 : Int32) (v3 : Int32) (u0 : Int32) (σ : Mem) : Option ((Int32 × Int32 × Mem) ⊕ (Int32 × Mem)) :=
  lt_ (v3 + 1) fun (x16 : Int32) =>
  some (.inl (u0, x16, σ))
def f_Mo_done_L17  (v1 : Int32) (v2 : Int32) (v3 : Int32) (σ : Mem) : Option ((Int32 × Int32 × Mem) ⊕ (Int32 × Mem)) :=
  if (σ.1 15 0) ≤ v3 then (
  inrM (f_Mo_done_J51 v1 v2 v3 σ))
  else (
  if v2 = 0 then (
  inrM (f_Mo_done_J51 v1 v2 v3 σ))
  else (
  bn (f_Mo_depth v3 σ) fun (r21 : Int32) (σ20 : Mem) =>
  if (12 : Int32) < r21 then (
  f_Mo_done_J44 v1 v2 v3 (0 : Int32) σ20)
  else (
  f_Mo_done_J44 v1 v2 v3 (1 : Int32) σ20)))
def f_Mo_done_J14  (v1 : Int32) (u0 : Int32) (σ : Mem) : Option (Int32 × Mem) :=
  lt_ (0 : Int32) fun (x22 : Int32) =>
  loopF (fun (q : (Int32 × Int32 × Mem)) => f_Mo_done_L17 v1 q.1 q.2.1 q.2.2) FU (u0, x22, σ)
def f_Mo_done  (v1 : Int32) (σ : Mem) : Option (Int32 × Mem) :=
  if (40 : Int32) < (σ.1 15 0) then (
  f_Mo_done_J14 v1 (0 : Int32) σ)
  else (
  f_Mo_done_J14 v1 (1 : Int32) σ)
set_option maxHeartbeats 4000000 in
set_option maxRecDepth 100000 in
theorem c_Mo_done (l : Launch) (g : Gw) (hg : wInj g) {v1 : Int32} {r0 : Int32} {σ σ0 : Mem} (h : f_Mo_done v1 σ = some (r0, σ0)) : KI l yMo_done cMo_done 4 (some .boolean) 3 g [.ref (ad g 15), .int v1] σ r0 σ0 := by
  refine q_met g hg (own := "TermBenchModel") rfl rfl (Nat.le_of_ble_eq_true rfl) (fun p e s m args below meth c R Q cx hRk hr hQ H locs ls hP hS hl => ?_)
  have hx := cx.1
  have hb := cx.2.1
  have hown := cx.2.2.2.1
  have hts := cx.2.2.2.2.1
  have hl : lv_has ls 4 [(0, .ref (ad g 15)), (1, .int v1)] := hl
  have J104 : ∀ (v1 : Int32) (v2 : Int32) (v3 : Int32) (σ : Mem), f_Mo_done_J104 v1 v2 v3 σ = some (r0, σ0) → ∀ (H : Heap) (locs : List Loc) (ls : Array Slot), lv_has ls 4 [(0, .ref (ad g 15)), (1, .int v1), (2, .int v2), (3, .int v3)] → Wd g σ H → va_S (wA g) s.heap H locs → W p l e R s m args below meth c H locs 0 0 Q (F0 m 104 ls []) := by
    intro v1 v2 v3 σ h H locs ls hl hP hS
    unfold f_Mo_done_J104 at h
    refine lv_aload_n hx hb dMo_done_104 rfl (lv_at hl 0 rfl) ?_
    refine lv_bipush (v := 32) hx hb dMo_done_105 (by decide) ?_
    refine lv_aload_n hx hb dMo_done_107 rfl (lv_at hl 0 rfl) ?_
    refine g_Mo_kept cx hP  t_535 dMo_done_108 ?_
    obtain ⟨rh1, σ2, h1, h⟩ := bn_some h
    refine q_cVv (rest := []) (As := [.int (32 : Int32), .int (σ.1 15 5)]) cx hP hS hRk (c_Mo_move l g hg h1) Y_Mo_move V_Mo_move t_696 (by decide) (by decide) (e_15 g _ _) rfl rfl hl.1 rfl (Nat.le_of_ble_eq_true rfl) dMo_done_111 (fun H locs hP hS => ?_)
    refine lv_aload_n hx hb dMo_done_114 rfl (lv_at hl 0 rfl) ?_
    refine lv_dup hx hb dMo_done_115 rfl ?_
    refine g_Mo_kept cx hP  t_535 dMo_done_116 ?_
    refine lv_iconst (v := 1) hx hb dMo_done_119 (by decide) ?_
    refine lv_iadd hx hb dMo_done_120 ?_
    obtain ⟨σ3, eσ3, h⟩ := lt_some h
    refine p_Mo_kept cx hP hS t_535 dMo_done_121 eσ3 (fun H locs hP hS => ?_)
    refine lv_aload_n hx hb dMo_done_124 rfl (lv_at hl 0 rfl) ?_
    refine lv_iconst (v := 0) hx hb dMo_done_125 (by decide) ?_
    obtain ⟨σ4, eσ4, h⟩ := lt_some h
    refine p_Mo_aside cx hP hS t_536 dMo_done_126 eσ4 (fun H locs hP hS => ?_)
    refine lv_aload_n hx hb dMo_done_129 rfl (lv_at hl 0 rfl) ?_
    refine lv_iload_n hx hb dMo_done_130 rfl (lv_at hl 1 rfl) ?_
    obtain ⟨σ5, eσ5, h⟩ := lt_some h
    refine p_Mo_cursor cx hP hS t_531 dMo_done_131 eσ5 (fun H locs hP hS => ?_)
    refine lv_aload_n hx hb dMo_done_134 rfl (lv_at hl 0 rfl) ?_
    refine lv_iconst (v := 0) hx hb dMo_done_135 (by decide) ?_
    obtain ⟨σ6, eσ6, h⟩ := lt_some h
    refine p_Mo_typed cx hP hS t_542 dMo_done_136 rfl rfl eσ6 (fun H locs hP hS => ?_)
    refine lv_aload_n hx hb dMo_done_139 rfl (lv_at hl 0 rfl) ?_
    refine lv_iconst (v := 0) hx hb dMo_done_140 (by decide) ?_
    obtain ⟨σ7, eσ7, h⟩ := lt_some h
    refine p_Mo_spelled cx hP hS t_546 dMo_done_141 rfl rfl eσ7 (fun H locs hP hS => ?_)
    refine lv_iconst (v := 1) hx hb dMo_done_144 (by decide) ?_
    exact q_ri cx hr rfl hP hS hQ h dMo_done_145
  have J51 : ∀ (v1 : Int32) (v2 : Int32) (v3 : Int32) (σ : Mem), f_Mo_done_J51 v1 v2 v3 σ = some (r0, σ0) → ∀ (H : Heap) (locs : List Loc) (ls : Array Slot), lv_has ls 4 [(0, .ref (ad g 15)), (1, .int v1), (2, .int v2), (3, .int v3)] → Wd g σ H → va_S (wA g) s.heap H locs → W p l e R s m args below meth c H locs 0 0 Q (F0 m 51 ls []) := by
    intro v1 v2 v3 σ h H locs ls hl hP hS
    unfold f_Mo_done_J51 at h
    refine lv_iload_n hx hb dMo_done_51 rfl (lv_at hl 2 rfl) ?_
    refine lv_if_ne (tgt := 63) hx hb dMo_done_52 (by decide) (fun hc => ?_) (fun hc => ?_)
    · replace h := if_f h hc
      refine lv_aload_n hx hb dMo_done_63 rfl (lv_at hl 0 rfl) ?_
      refine g_Mo_kept cx hP  t_535 dMo_done_64 ?_
      refine lv_bipush (v := 16) hx hb dMo_done_67 (by decide) ?_
      refine lv_icmp_ne (tgt := 104) hx hb dMo_done_69 (by decide) (fun hc => ?_) (fun hc => ?_)
      · replace h := if_f h hc
        exact J104 _ _ _ _ h _ _ _ (lv_sub hl [0, 1, 2, 3] rfl) hP hS
      · replace h := if_t h hc
        refine lv_iconst (v := 1) hx hb dMo_done_72 (by decide) ?_
        obtain ⟨x13, ex13, h⟩ := lt_some h
        refine q_nmi ex13 ?_
        refine lv_istore_n (lv' := [(3, .int x13), (0, .ref (ad g 15)), (1, .int v1), (2, .int v2)]) hx hb dMo_done_73 rfl hl (Nat.le_of_ble_eq_true rfl) rfl (fun ls hl => ?_)
        have L74 : ∀ (n : Nat) (v1 : Int32) (v2 : Int32) (v3 : Int32) (σ : Mem), loopF (fun (q : (Int32 × Mem)) => f_Mo_done_L74 v1 v2 q.1 q.2) n (v3, σ) = some (r0, σ0) → ∀ (H : Heap) (locs : List Loc) (ls : Array Slot), lv_has ls 4 [(0, .ref (ad g 15)), (1, .int v1), (2, .int v2), (3, .int v3)] → Wd g σ H → va_S (wA g) s.heap H locs → W p l e R s m args below meth c H locs 0 0 Q (F0 m 74 ls []) := by
          intro n
          induction n with
          | zero => intro v1 v2 v3 σ h; exact (loopF_zero h).elim
          | succ n ih74 =>
            intro v1 v2 v3 σ h H locs ls hl hP hS
            obtain ⟨o74, h, K74, E74⟩ := loopF_succ h
            have h : f_Mo_done_L74 v1 v2 v3 σ = some o74 := h
            unfold f_Mo_done_L74 at h
            refine lv_iload_n hx hb dMo_done_74 rfl (lv_at hl 3 rfl) ?_
            refine lv_bipush (v := 16) hx hb dMo_done_75 (by decide) ?_
            refine lv_icmp_ge (tgt := 94) hx hb dMo_done_77 (by decide) (fun hc => ?_) (fun hc => ?_)
            · replace h := if_t h hc
              obtain ⟨z8, h, ez8⟩ := inrM_some h
              rw [E74 z8 ez8] at h
              refine lv_aload_n hx hb dMo_done_94 rfl (lv_at hl 0 rfl) ?_
              refine lv_dup hx hb dMo_done_95 rfl ?_
              refine g_Mo_kept cx hP  t_535 dMo_done_96 ?_
              refine lv_iconst (v := 1) hx hb dMo_done_99 (by decide) ?_
              refine lv_isub hx hb dMo_done_100 ?_
              obtain ⟨σ9, eσ9, h⟩ := lt_some h
              refine p_Mo_kept cx hP hS t_535 dMo_done_101 eσ9 (fun H locs hP hS => ?_)
              exact J104 _ _ _ _ h _ _ _ (lv_sub hl [0, 1, 2, 3] rfl) hP hS
            · replace h := if_f h hc
              refine lv_aload_n hx hb dMo_done_80 rfl (lv_at hl 0 rfl) ?_
              refine lv_iload_n hx hb dMo_done_81 rfl (lv_at hl 3 rfl) ?_
              refine lv_iload_n hx hb dMo_done_82 rfl (lv_at hl 3 rfl) ?_
              refine lv_iconst (v := 1) hx hb dMo_done_83 (by decide) ?_
              refine lv_isub hx hb dMo_done_84 ?_
              obtain ⟨rh10, σ11, h10, h⟩ := bn_some h
              refine q_cVv (rest := []) (As := [.int v3, .int (v3 - (1 : Int32))]) cx hP hS hRk (c_Mo_move l g hg h10) Y_Mo_move V_Mo_move t_696 (by decide) (by decide) (e_15 g _ _) rfl rfl hl.1 rfl (Nat.le_of_ble_eq_true rfl) dMo_done_85 (fun H locs hP hS => ?_)
              obtain ⟨x12, ex12, h⟩ := lt_some h
              refine lv_iinc (lv' := [(3, .int x12), (0, .ref (ad g 15)), (1, .int v1), (2, .int v2)]) hx hb dMo_done_88 hl (k := 3) rfl (q_inc ex12 (by decide)) (Nat.le_of_ble_eq_true rfl) rfl (fun ls hl => ?_)
              refine lv_goto (tgt := 74) hx hb dMo_done_91 (by decide) ?_
              exact ih74 _ _ _ _ (K74 _ (Option.some.inj h).symm) _ _ _ (lv_sub hl [1, 2, 3, 0] rfl) hP hS
        exact L74 _ _ _ _ _ h _ _ _ (lv_sub hl [1, 2, 3, 0] rfl) hP hS
    · replace h := if_t h hc
      refine lv_aload_n hx hb dMo_done_55 rfl (lv_at hl 0 rfl) ?_
      refine lv_bipush (v := 32) hx hb dMo_done_56 (by decide) ?_
      obtain ⟨rh14, σ15, h14, h⟩ := bn_some h
      refine q_cVv (rest := []) (As := [.int (32 : Int32)]) cx hP hS hRk (c_Mo_bring l g hg h14) Y_Mo_bring V_Mo_bring t_665 (by decide) (by decide) (e_15 g _ _) rfl rfl hl.1 rfl (Nat.le_of_ble_eq_true rfl) dMo_done_58 (fun H locs hP hS => ?_)
      refine lv_iconst (v := 0) hx hb dMo_done_61 (by decide) ?_
      exact q_ri cx hr rfl hP hS hQ h dMo_done_62
  have J14 : ∀ (v1 : Int32) (u0 : Int32) (σ : Mem), f_Mo_done_J14 v1 u0 σ = some (r0, σ0) → ∀ (H : Heap) (locs : List Loc) (ls : Array Slot), lv_has ls 4 [(0, .ref (ad g 15)), (1, .int v1)] → Wd g σ H → va_S (wA g) s.heap H locs → W p l e R s m args below meth c H locs 0 0 Q (F0 m 14 ls [.int u0]) := by
    intro v1 u0 σ h H locs ls hl hP hS
    unfold f_Mo_done_J14 at h
    refine lv_istore_n (lv' := [(2, .int u0), (0, .ref (ad g 15)), (1, .int v1)]) hx hb dMo_done_14 rfl hl (Nat.le_of_ble_eq_true rfl) rfl (fun ls hl => ?_)
    refine lv_iconst (v := 0) hx hb dMo_done_15 (by decide) ?_
    obtain ⟨x22, ex22, h⟩ := lt_some h
    refine q_nmi ex22 ?_
    refine lv_istore_n (lv' := [(3, .int x22), (2, .int u0), (0, .ref (ad g 15)), (1, .int v1)]) hx hb dMo_done_16 rfl hl (Nat.le_of_ble_eq_true rfl) rfl (fun ls hl => ?_)
    have L17 : ∀ (n : Nat) (v1 : Int32) (v2 : Int32) (v3 : Int32) (σ : Mem), loopF (fun (q : (Int32 × Int32 × Mem)) => f_Mo_done_L17 v1 q.1 q.2.1 q.2.2) n (v2, v3, σ) = some (r0, σ0) → ∀ (H : Heap) (locs : List Loc) (ls : Array Slot), lv_has ls 4 [(0, .ref (ad g 15)), (1, .int v1), (2, .int v2), (3, .int v3)] → Wd g σ H → va_S (wA g) s.heap H locs → W p l e R s m args below meth c H locs 0 0 Q (F0 m 17 ls []) := by
      intro n
      induction n with
      | zero => intro v1 v2 v3 σ h; exact (loopF_zero h).elim
      | succ n ih17 =>
        intro v1 v2 v3 σ h H locs ls hl hP hS
        obtain ⟨o17, h, K17, E17⟩ := loopF_succ h
        have h : f_Mo_done_L17 v1 v2 v3 σ = some o17 := h
        have J44 : ∀ (v2 : Int32) (v3 : Int32) (u0 : Int32) (σ : Mem), f_Mo_done_J44 v1 v2 v3 u0 σ = some o17 → ∀ (H : Heap) (locs : List Loc) (ls : Array Slot), lv_has ls 4 [(0, .ref (ad g 15)), (1, .int v1), (2, .int v2), (3, .int v3)] → Wd g σ H → va_S (wA g) s.heap H locs → W p l e R s m args below meth c H locs 0 0 Q (F0 m 44 ls [.int u0]) := by
          intro v2 v3 u0 σ h H locs ls hl hP hS
          unfold f_Mo_done_J44 at h
          refine lv_istore_n (lv' := [(2, .int u0), (0, .ref (ad g 15)), (1, .int v1), (3, .int v3)]) hx hb dMo_done_44 rfl hl (Nat.le_of_ble_eq_true rfl) rfl (fun ls hl => ?_)
          obtain ⟨x16, ex16, h⟩ := lt_some h
          refine lv_iinc (lv' := [(3, .int x16), (2, .int u0), (0, .ref (ad g 15)), (1, .int v1)]) hx hb dMo_done_45 hl (k := 3) rfl (q_inc ex16 (by decide)) (Nat.le_of_ble_eq_true rfl) rfl (fun ls hl => ?_)
          refine lv_goto (tgt := 17) hx hb dMo_done_48 (by decide) ?_
          exact ih17 _ _ _ _ (K17 _ (Option.some.inj h).symm) _ _ _ (lv_sub hl [2, 3, 1, 0] rfl) hP hS
        unfold f_Mo_done_L17 at h
        refine lv_iload_n hx hb dMo_done_17 rfl (lv_at hl 3 rfl) ?_
        refine lv_aload_n hx hb dMo_done_18 rfl (lv_at hl 0 rfl) ?_
        refine g_Mo_count cx hP  t_530 dMo_done_19 ?_
        refine lv_icmp_ge (tgt := 51) hx hb dMo_done_22 (by decide) (fun hc => ?_) (fun hc => ?_)
        · replace h := if_t h hc
          obtain ⟨z17, h, ez17⟩ := inrM_some h
          rw [E17 z17 ez17] at h
          exact J51 _ _ _ _ h _ _ _ (lv_sub hl [0, 1, 2, 3] rfl) hP hS
        · replace h := if_f h hc
          refine lv_iload_n hx hb dMo_done_25 rfl (lv_at hl 2 rfl) ?_
          refine lv_if_eq (tgt := 51) hx hb dMo_done_26 (by decide) (fun hc => ?_) (fun hc => ?_)
          · replace h := if_t h hc
            obtain ⟨z18, h, ez18⟩ := inrM_some h
            rw [E17 z18 ez18] at h
            exact J51 _ _ _ _ h _ _ _ (lv_sub hl [0, 1, 2, 3] rfl) hP hS
          · replace h := if_f h hc
            refine lv_aload_n hx hb dMo_done_29 rfl (lv_at hl 0 rfl) ?_
            refine lv_iload_n hx hb dMo_done_30 rfl (lv_at hl 3 rfl) ?_
            obtain ⟨r21, σ20, h19, h⟩ := bn_some h
            refine q_cVi (rest := []) (As := [.int v3]) cx hP hS hRk (c_Mo_depth l g hg h19) Y_Mo_depth V_Mo_depth t_685 (by decide) (by decide) (e_15 g _ _) rfl rfl hl.1 rfl (Nat.le_of_ble_eq_true rfl) dMo_done_31 (fun H locs hP hS => ?_)
            refine lv_bipush (v := 12) hx hb dMo_done_34 (by decide) ?_
            refine lv_icmp_gt (tgt := 43) hx hb dMo_done_36 (by decide) (fun hc => ?_) (fun hc => ?_)
            · replace h := if_t h hc
              refine lv_iconst (v := 0) hx hb dMo_done_43 (by decide) ?_
              exact J44 _ _ _ _ h _ _ _ (lv_sub hl [0, 1, 2, 3] rfl) hP hS
            · replace h := if_f h hc
              refine lv_iconst (v := 1) hx hb dMo_done_39 (by decide) ?_
              refine lv_goto (tgt := 44) hx hb dMo_done_40 (by decide) ?_
              exact J44 _ _ _ _ h _ _ _ (lv_sub hl [0, 1, 2, 3] rfl) hP hS
    exact L17 _ _ _ _ _ h _ _ _ (lv_sub hl [2, 3, 1, 0] rfl) hP hS
  unfold f_Mo_done at h
  refine lv_aload_n hx hb dMo_done_0 rfl (lv_at hl 0 rfl) ?_
  refine g_Mo_count cx hP  t_530 dMo_done_1 ?_
  refine lv_bipush (v := 40) hx hb dMo_done_4 (by decide) ?_
  refine lv_icmp_gt (tgt := 13) hx hb dMo_done_6 (by decide) (fun hc => ?_) (fun hc => ?_)
  · replace h := if_t h hc
    refine lv_iconst (v := 0) hx hb dMo_done_13 (by decide) ?_
    exact J14 _ _ _ h _ _ _ (lv_sub hl [0, 1] rfl) hP hS
  · replace h := if_f h hc
    refine lv_iconst (v := 1) hx hb dMo_done_9 (by decide) ?_
    refine lv_goto (tgt := 14) hx hb dMo_done_10 (by decide) ?_
    exact J14 _ _ _ h _ _ _ (lv_sub hl [0, 1] rfl) hP hS
theorem dMo_undo_0 : decode cMo_undo 0 = .ok (.aload_n 0, 1) := by decide +kernel
theorem dMo_undo_1 : decode cMo_undo 1 = .ok (.getfield 143, 3) := by decide +kernel
theorem dMo_undo_4 : decode cMo_undo 4 = .ok (.ifCond .ne 5, 3) := by decide +kernel
theorem dMo_undo_7 : decode cMo_undo 7 = .ok (.iconst 0, 1) := by decide +kernel
theorem dMo_undo_8 : decode cMo_undo 8 = .ok (.ireturn, 1) := by decide +kernel
theorem dMo_undo_9 : decode cMo_undo 9 = .ok (.aload_n 0, 1) := by decide +kernel
theorem dMo_undo_10 : decode cMo_undo 10 = .ok (.bipush 16, 2) := by decide +kernel
theorem dMo_undo_12 : decode cMo_undo 12 = .ok (.aload_n 0, 1) := by decide +kernel
theorem dMo_undo_13 : decode cMo_undo 13 = .ok (.getfield 149, 3) := by decide +kernel
theorem dMo_undo_16 : decode cMo_undo 16 = .ok (.iadd, 1) := by decide +kernel
theorem dMo_undo_17 : decode cMo_undo 17 = .ok (.invokevirtual 133, 3) := by decide +kernel
theorem dMo_undo_20 : decode cMo_undo 20 = .ok (.aload_n 0, 1) := by decide +kernel
theorem dMo_undo_21 : decode cMo_undo 21 = .ok (.dup, 1) := by decide +kernel
theorem dMo_undo_22 : decode cMo_undo 22 = .ok (.getfield 149, 3) := by decide +kernel
theorem dMo_undo_25 : decode cMo_undo 25 = .ok (.iconst 1, 1) := by decide +kernel
theorem dMo_undo_26 : decode cMo_undo 26 = .ok (.iadd, 1) := by decide +kernel
theorem dMo_undo_27 : decode cMo_undo 27 = .ok (.putfield 149, 3) := by decide +kernel
theorem dMo_undo_30 : decode cMo_undo 30 = .ok (.aload_n 0, 1) := by decide +kernel
theorem dMo_undo_31 : decode cMo_undo 31 = .ok (.dup, 1) := by decide +kernel
theorem dMo_undo_32 : decode cMo_undo 32 = .ok (.getfield 143, 3) := by decide +kernel
theorem dMo_undo_35 : decode cMo_undo 35 = .ok (.iconst 1, 1) := by decide +kernel
theorem dMo_undo_36 : decode cMo_undo 36 = .ok (.isub, 1) := by decide +kernel
theorem dMo_undo_37 : decode cMo_undo 37 = .ok (.putfield 143, 3) := by decide +kernel
theorem dMo_undo_40 : decode cMo_undo 40 = .ok (.aload_n 0, 1) := by decide +kernel
theorem dMo_undo_41 : decode cMo_undo 41 = .ok (.aload_n 0, 1) := by decide +kernel
theorem dMo_undo_42 : decode cMo_undo 42 = .ok (.getfield 143, 3) := by decide +kernel
theorem dMo_undo_45 : decode cMo_undo 45 = .ok (.invokevirtual 140, 3) := by decide +kernel
theorem dMo_undo_48 : decode cMo_undo 48 = .ok (.iconst 1, 1) := by decide +kernel
theorem dMo_undo_49 : decode cMo_undo 49 = .ok (.ireturn, 1) := by decide +kernel
def f_Mo_undo   (σ : Mem) : Option (Int32 × Mem) :=
  if (σ.1 15 5) = 0 then (
  some ((0 : Int32), σ))
  else (
  bn (f_Mo_save ((16 : Int32) + (σ.1 15 6)) σ) fun (_ : Unit) (σ2 : Mem) =>
  lt_ (sI σ2 15 6 ((σ2.1 15 6) + (1 : Int32))) fun (σ3 : Mem) =>
  lt_ (sI σ3 15 5 ((σ3.1 15 5) - (1 : Int32))) fun (σ4 : Mem) =>
  bn (f_Mo_bring (σ4.1 15 5) σ4) fun (_ : Unit) (σ6 : Mem) =>
  some ((1 : Int32), σ6))
set_option maxHeartbeats 4000000 in
set_option maxRecDepth 100000 in
theorem c_Mo_undo (l : Launch) (g : Gw) (hg : wInj g) {r0 : Int32} {σ σ0 : Mem} (h : f_Mo_undo σ = some (r0, σ0)) : KI l yMo_undo cMo_undo 1 (some .boolean) 1 g [.ref (ad g 15)] σ r0 σ0 := by
  refine q_met g hg (own := "TermBenchModel") rfl rfl (Nat.le_of_ble_eq_true rfl) (fun p e s m args below meth c R Q cx hRk hr hQ H locs ls hP hS hl => ?_)
  have hx := cx.1
  have hb := cx.2.1
  have hown := cx.2.2.2.1
  have hts := cx.2.2.2.2.1
  have hl : lv_has ls 1 [(0, .ref (ad g 15))] := hl
  unfold f_Mo_undo at h
  refine lv_aload_n hx hb dMo_undo_0 rfl (lv_at hl 0 rfl) ?_
  refine g_Mo_kept cx hP  t_535 dMo_undo_1 ?_
  refine lv_if_ne (tgt := 9) hx hb dMo_undo_4 (by decide) (fun hc => ?_) (fun hc => ?_)
  · replace h := if_f h hc
    refine lv_aload_n hx hb dMo_undo_9 rfl (lv_at hl 0 rfl) ?_
    refine lv_bipush (v := 16) hx hb dMo_undo_10 (by decide) ?_
    refine lv_aload_n hx hb dMo_undo_12 rfl (lv_at hl 0 rfl) ?_
    refine g_Mo_aside cx hP  t_536 dMo_undo_13 ?_
    refine lv_iadd hx hb dMo_undo_16 ?_
    obtain ⟨rh1, σ2, h1, h⟩ := bn_some h
    refine q_cVv (rest := []) (As := [.int ((16 : Int32) + (σ.1 15 6))]) cx hP hS hRk (c_Mo_save l g hg h1) Y_Mo_save V_Mo_save t_661 (by decide) (by decide) (e_15 g _ _) rfl rfl hl.1 rfl (Nat.le_of_ble_eq_true rfl) dMo_undo_17 (fun H locs hP hS => ?_)
    refine lv_aload_n hx hb dMo_undo_20 rfl (lv_at hl 0 rfl) ?_
    refine lv_dup hx hb dMo_undo_21 rfl ?_
    refine g_Mo_aside cx hP  t_536 dMo_undo_22 ?_
    refine lv_iconst (v := 1) hx hb dMo_undo_25 (by decide) ?_
    refine lv_iadd hx hb dMo_undo_26 ?_
    obtain ⟨σ3, eσ3, h⟩ := lt_some h
    refine p_Mo_aside cx hP hS t_536 dMo_undo_27 eσ3 (fun H locs hP hS => ?_)
    refine lv_aload_n hx hb dMo_undo_30 rfl (lv_at hl 0 rfl) ?_
    refine lv_dup hx hb dMo_undo_31 rfl ?_
    refine g_Mo_kept cx hP  t_535 dMo_undo_32 ?_
    refine lv_iconst (v := 1) hx hb dMo_undo_35 (by decide) ?_
    refine lv_isub hx hb dMo_undo_36 ?_
    obtain ⟨σ4, eσ4, h⟩ := lt_some h
    refine p_Mo_kept cx hP hS t_535 dMo_undo_37 eσ4 (fun H locs hP hS => ?_)
    refine lv_aload_n hx hb dMo_undo_40 rfl (lv_at hl 0 rfl) ?_
    refine lv_aload_n hx hb dMo_undo_41 rfl (lv_at hl 0 rfl) ?_
    refine g_Mo_kept cx hP  t_535 dMo_undo_42 ?_
    obtain ⟨rh5, σ6, h5, h⟩ := bn_some h
    refine q_cVv (rest := []) (As := [.int (σ4.1 15 5)]) cx hP hS hRk (c_Mo_bring l g hg h5) Y_Mo_bring V_Mo_bring t_665 (by decide) (by decide) (e_15 g _ _) rfl rfl hl.1 rfl (Nat.le_of_ble_eq_true rfl) dMo_undo_45 (fun H locs hP hS => ?_)
    refine lv_iconst (v := 1) hx hb dMo_undo_48 (by decide) ?_
    exact q_ri cx hr rfl hP hS hQ h dMo_undo_49
  · replace h := if_t h hc
    refine lv_iconst (v := 0) hx hb dMo_undo_7 (by decide) ?_
    exact q_ri cx hr rfl hP hS hQ h dMo_undo_8
theorem dMo_redo_0 : decode cMo_redo 0 = .ok (.aload_n 0, 1) := by decide +kernel
theorem dMo_redo_1 : decode cMo_redo 1 = .ok (.getfield 149, 3) := by decide +kernel
theorem dMo_redo_4 : decode cMo_redo 4 = .ok (.ifCond .ne 5, 3) := by decide +kernel
theorem dMo_redo_7 : decode cMo_redo 7 = .ok (.iconst 0, 1) := by decide +kernel
theorem dMo_redo_8 : decode cMo_redo 8 = .ok (.ireturn, 1) := by decide +kernel
theorem dMo_redo_9 : decode cMo_redo 9 = .ok (.aload_n 0, 1) := by decide +kernel
theorem dMo_redo_10 : decode cMo_redo 10 = .ok (.aload_n 0, 1) := by decide +kernel
theorem dMo_redo_11 : decode cMo_redo 11 = .ok (.getfield 143, 3) := by decide +kernel
theorem dMo_redo_14 : decode cMo_redo 14 = .ok (.invokevirtual 133, 3) := by decide +kernel
theorem dMo_redo_17 : decode cMo_redo 17 = .ok (.aload_n 0, 1) := by decide +kernel
theorem dMo_redo_18 : decode cMo_redo 18 = .ok (.dup, 1) := by decide +kernel
theorem dMo_redo_19 : decode cMo_redo 19 = .ok (.getfield 143, 3) := by decide +kernel
theorem dMo_redo_22 : decode cMo_redo 22 = .ok (.iconst 1, 1) := by decide +kernel
theorem dMo_redo_23 : decode cMo_redo 23 = .ok (.iadd, 1) := by decide +kernel
theorem dMo_redo_24 : decode cMo_redo 24 = .ok (.putfield 143, 3) := by decide +kernel
theorem dMo_redo_27 : decode cMo_redo 27 = .ok (.aload_n 0, 1) := by decide +kernel
theorem dMo_redo_28 : decode cMo_redo 28 = .ok (.dup, 1) := by decide +kernel
theorem dMo_redo_29 : decode cMo_redo 29 = .ok (.getfield 149, 3) := by decide +kernel
theorem dMo_redo_32 : decode cMo_redo 32 = .ok (.iconst 1, 1) := by decide +kernel
theorem dMo_redo_33 : decode cMo_redo 33 = .ok (.isub, 1) := by decide +kernel
theorem dMo_redo_34 : decode cMo_redo 34 = .ok (.putfield 149, 3) := by decide +kernel
theorem dMo_redo_37 : decode cMo_redo 37 = .ok (.aload_n 0, 1) := by decide +kernel
theorem dMo_redo_38 : decode cMo_redo 38 = .ok (.bipush 16, 2) := by decide +kernel
theorem dMo_redo_40 : decode cMo_redo 40 = .ok (.aload_n 0, 1) := by decide +kernel
theorem dMo_redo_41 : decode cMo_redo 41 = .ok (.getfield 149, 3) := by decide +kernel
theorem dMo_redo_44 : decode cMo_redo 44 = .ok (.iadd, 1) := by decide +kernel
theorem dMo_redo_45 : decode cMo_redo 45 = .ok (.invokevirtual 140, 3) := by decide +kernel
theorem dMo_redo_48 : decode cMo_redo 48 = .ok (.iconst 1, 1) := by decide +kernel
theorem dMo_redo_49 : decode cMo_redo 49 = .ok (.ireturn, 1) := by decide +kernel
def f_Mo_redo   (σ : Mem) : Option (Int32 × Mem) :=
  if (σ.1 15 6) = 0 then (
  some ((0 : Int32), σ))
  else (
  bn (f_Mo_save (σ.1 15 5) σ) fun (_ : Unit) (σ2 : Mem) =>
  lt_ (sI σ2 15 5 ((σ2.1 15 5) + (1 : Int32))) fun (σ3 : Mem) =>
  lt_ (sI σ3 15 6 ((σ3.1 15 6) - (1 : Int32))) fun (σ4 : Mem) =>
  bn (f_Mo_bring ((16 : Int32) + (σ4.1 15 6)) σ4) fun (_ : Unit) (σ6 : Mem) =>
  some ((1 : Int32), σ6))
set_option maxHeartbeats 4000000 in
set_option maxRecDepth 100000 in
theorem c_Mo_redo (l : Launch) (g : Gw) (hg : wInj g) {r0 : Int32} {σ σ0 : Mem} (h : f_Mo_redo σ = some (r0, σ0)) : KI l yMo_redo cMo_redo 1 (some .boolean) 1 g [.ref (ad g 15)] σ r0 σ0 := by
  refine q_met g hg (own := "TermBenchModel") rfl rfl (Nat.le_of_ble_eq_true rfl) (fun p e s m args below meth c R Q cx hRk hr hQ H locs ls hP hS hl => ?_)
  have hx := cx.1
  have hb := cx.2.1
  have hown := cx.2.2.2.1
  have hts := cx.2.2.2.2.1
  have hl : lv_has ls 1 [(0, .ref (ad g 15))] := hl
  unfold f_Mo_redo at h
  refine lv_aload_n hx hb dMo_redo_0 rfl (lv_at hl 0 rfl) ?_
  refine g_Mo_aside cx hP  t_536 dMo_redo_1 ?_
  refine lv_if_ne (tgt := 9) hx hb dMo_redo_4 (by decide) (fun hc => ?_) (fun hc => ?_)
  · replace h := if_f h hc
    refine lv_aload_n hx hb dMo_redo_9 rfl (lv_at hl 0 rfl) ?_
    refine lv_aload_n hx hb dMo_redo_10 rfl (lv_at hl 0 rfl) ?_
    refine g_Mo_kept cx hP  t_535 dMo_redo_11 ?_
    obtain ⟨rh1, σ2, h1, h⟩ := bn_some h
    refine q_cVv (rest := []) (As := [.int (σ.1 15 5)]) cx hP hS hRk (c_Mo_save l g hg h1) Y_Mo_save V_Mo_save t_661 (by decide) (by decide) (e_15 g _ _) rfl rfl hl.1 rfl (Nat.le_of_ble_eq_true rfl) dMo_redo_14 (fun H locs hP hS => ?_)
    refine lv_aload_n hx hb dMo_redo_17 rfl (lv_at hl 0 rfl) ?_
    refine lv_dup hx hb dMo_redo_18 rfl ?_
    refine g_Mo_kept cx hP  t_535 dMo_redo_19 ?_
    refine lv_iconst (v := 1) hx hb dMo_redo_22 (by decide) ?_
    refine lv_iadd hx hb dMo_redo_23 ?_
    obtain ⟨σ3, eσ3, h⟩ := lt_some h
    refine p_Mo_kept cx hP hS t_535 dMo_redo_24 eσ3 (fun H locs hP hS => ?_)
    refine lv_aload_n hx hb dMo_redo_27 rfl (lv_at hl 0 rfl) ?_
    refine lv_dup hx hb dMo_redo_28 rfl ?_
    refine g_Mo_aside cx hP  t_536 dMo_redo_29 ?_
    refine lv_iconst (v := 1) hx hb dMo_redo_32 (by decide) ?_
    refine lv_isub hx hb dMo_redo_33 ?_
    obtain ⟨σ4, eσ4, h⟩ := lt_some h
    refine p_Mo_aside cx hP hS t_536 dMo_redo_34 eσ4 (fun H locs hP hS => ?_)
    refine lv_aload_n hx hb dMo_redo_37 rfl (lv_at hl 0 rfl) ?_
    refine lv_bipush (v := 16) hx hb dMo_redo_38 (by decide) ?_
    refine lv_aload_n hx hb dMo_redo_40 rfl (lv_at hl 0 rfl) ?_
    refine g_Mo_aside cx hP  t_536 dMo_redo_41 ?_
    refine lv_iadd hx hb dMo_redo_44 ?_
    obtain ⟨rh5, σ6, h5, h⟩ := bn_some h
    refine q_cVv (rest := []) (As := [.int ((16 : Int32) + (σ4.1 15 6))]) cx hP hS hRk (c_Mo_bring l g hg h5) Y_Mo_bring V_Mo_bring t_665 (by decide) (by decide) (e_15 g _ _) rfl rfl hl.1 rfl (Nat.le_of_ble_eq_true rfl) dMo_redo_45 (fun H locs hP hS => ?_)
    refine lv_iconst (v := 1) hx hb dMo_redo_48 (by decide) ?_
    exact q_ri cx hr rfl hP hS hQ h dMo_redo_49
  · replace h := if_t h hc
    refine lv_iconst (v := 0) hx hb dMo_redo_7 (by decide) ?_
    exact q_ri cx hr rfl hP hS hQ h dMo_redo_8
theorem dMo_number_0 : decode cMo_number 0 = .ok (.aload_n 0, 1) := by decide +kernel
theorem dMo_number_1 : decode cMo_number 1 = .ok (.getfield 13, 3) := by decide +kernel
theorem dMo_number_4 : decode cMo_number 4 = .ok (.aload_n 0, 1) := by decide +kernel
theorem dMo_number_5 : decode cMo_number 5 = .ok (.getfield 123, 3) := by decide +kernel
theorem dMo_number_8 : decode cMo_number 8 = .ok (.iaload, 1) := by decide +kernel
theorem dMo_number_9 : decode cMo_number 9 = .ok (.ifCond .ne 17, 3) := by decide +kernel
theorem dMo_number_12 : decode cMo_number 12 = .ok (.iload_n 1, 1) := by decide +kernel
theorem dMo_number_13 : decode cMo_number 13 = .ok (.sipush (-999), 3) := by decide +kernel
theorem dMo_number_16 : decode cMo_number 16 = .ok (.if_icmp .lt 10, 3) := by decide +kernel
theorem dMo_number_19 : decode cMo_number 19 = .ok (.iload_n 1, 1) := by decide +kernel
theorem dMo_number_20 : decode cMo_number 20 = .ok (.sipush 999, 3) := by decide +kernel
theorem dMo_number_23 : decode cMo_number 23 = .ok (.if_icmp .le 5, 3) := by decide +kernel
theorem dMo_number_26 : decode cMo_number 26 = .ok (.iconst 0, 1) := by decide +kernel
theorem dMo_number_27 : decode cMo_number 27 = .ok (.ireturn, 1) := by decide +kernel
theorem dMo_number_28 : decode cMo_number 28 = .ok (.aload_n 0, 1) := by decide +kernel
theorem dMo_number_29 : decode cMo_number 29 = .ok (.invokevirtual 152, 3) := by decide +kernel
theorem dMo_number_32 : decode cMo_number 32 = .ok (.aload_n 0, 1) := by decide +kernel
theorem dMo_number_33 : decode cMo_number 33 = .ok (.getfield 13, 3) := by decide +kernel
theorem dMo_number_36 : decode cMo_number 36 = .ok (.aload_n 0, 1) := by decide +kernel
theorem dMo_number_37 : decode cMo_number 37 = .ok (.getfield 123, 3) := by decide +kernel
theorem dMo_number_40 : decode cMo_number 40 = .ok (.iconst 1, 1) := by decide +kernel
theorem dMo_number_41 : decode cMo_number 41 = .ok (.iastore, 1) := by decide +kernel
theorem dMo_number_42 : decode cMo_number 42 = .ok (.aload_n 0, 1) := by decide +kernel
theorem dMo_number_43 : decode cMo_number 43 = .ok (.getfield 17, 3) := by decide +kernel
theorem dMo_number_46 : decode cMo_number 46 = .ok (.aload_n 0, 1) := by decide +kernel
theorem dMo_number_47 : decode cMo_number 47 = .ok (.getfield 123, 3) := by decide +kernel
theorem dMo_number_50 : decode cMo_number 50 = .ok (.iload_n 1, 1) := by decide +kernel
theorem dMo_number_51 : decode cMo_number 51 = .ok (.iastore, 1) := by decide +kernel
theorem dMo_number_52 : decode cMo_number 52 = .ok (.aload_n 0, 1) := by decide +kernel
theorem dMo_number_53 : decode cMo_number 53 = .ok (.aload_n 0, 1) := by decide +kernel
theorem dMo_number_54 : decode cMo_number 54 = .ok (.getfield 123, 3) := by decide +kernel
theorem dMo_number_57 : decode cMo_number 57 = .ok (.invokevirtual 155, 3) := by decide +kernel
theorem dMo_number_60 : decode cMo_number 60 = .ok (.ireturn, 1) := by decide +kernel
def f_Mo_number_J26  (v1 : Int32) (σ : Mem) : Option (Int32 × Mem) :=
  some ((0 : Int32), σ)
def f_Mo_number  (v1 : Int32) (σ : Mem) : Option (Int32 × Mem) :=
  gd (inb (σ.1 15 1) 48) (
  if (σ.1 16 (σ.1 15 1).toNatClampNeg) = 0 then (
  if v1 < ((-999) : Int32) then (
  f_Mo_number_J26 v1 σ)
  else (
  if v1 ≤ (999 : Int32) then (
  bn (f_Mo_begin σ) fun (_ : Unit) (σ3 : Mem) =>
  gd (inb (σ3.1 15 1) 48) (lt_ (sI σ3 16 (σ3.1 15 1).toNatClampNeg (1 : Int32)) fun (σ5 : Mem) =>
  gd (inb (σ5.1 15 1) 48) (lt_ (sI σ5 17 (σ5.1 15 1).toNatClampNeg v1) fun (σ7 : Mem) =>
  bn (f_Mo_done (σ7.1 15 1) σ7) fun (r10 : Int32) (σ9 : Mem) =>
  gd (isB r10) (some (r10, σ9)))))
  else (
  f_Mo_number_J26 v1 σ)))
  else (
  f_Mo_number_J26 v1 σ))
set_option maxHeartbeats 4000000 in
set_option maxRecDepth 100000 in
theorem c_Mo_number (l : Launch) (g : Gw) (hg : wInj g) {v1 : Int32} {r0 : Int32} {σ σ0 : Mem} (h : f_Mo_number v1 σ = some (r0, σ0)) : KI l yMo_number cMo_number 2 (some .boolean) 4 g [.ref (ad g 15), .int v1] σ r0 σ0 := by
  refine q_met g hg (own := "TermBenchModel") rfl rfl (Nat.le_of_ble_eq_true rfl) (fun p e s m args below meth c R Q cx hRk hr hQ H locs ls hP hS hl => ?_)
  have hx := cx.1
  have hb := cx.2.1
  have hown := cx.2.2.2.1
  have hts := cx.2.2.2.2.1
  have hl : lv_has ls 2 [(0, .ref (ad g 15)), (1, .int v1)] := hl
  have J26 : ∀ (v1 : Int32) (σ : Mem), f_Mo_number_J26 v1 σ = some (r0, σ0) → ∀ (H : Heap) (locs : List Loc) (ls : Array Slot), lv_has ls 2 [(0, .ref (ad g 15)), (1, .int v1)] → Wd g σ H → va_S (wA g) s.heap H locs → W p l e R s m args below meth c H locs 0 0 Q (F0 m 26 ls []) := by
    intro v1 σ h H locs ls hl hP hS
    unfold f_Mo_number_J26 at h
    refine lv_iconst (v := 0) hx hb dMo_number_26 (by decide) ?_
    exact q_ri cx hr rfl hP hS hQ h dMo_number_27
  unfold f_Mo_number at h
  refine lv_aload_n hx hb dMo_number_0 rfl (lv_at hl 0 rfl) ?_
  refine g_Mo_kinds cx hP  t_532 dMo_number_1 ?_
  refine lv_aload_n hx hb dMo_number_4 rfl (lv_at hl 0 rfl) ?_
  refine g_Mo_cursor cx hP  t_531 dMo_number_5 ?_
  obtain ⟨b1, h⟩ := gd_some h
  refine q_iald cx hP (by decide) (e_16 g) b1 dMo_number_8 ?_
  refine lv_if_ne (tgt := 26) hx hb dMo_number_9 (by decide) (fun hc => ?_) (fun hc => ?_)
  · replace h := if_f h hc
    exact J26 _ _ h _ _ _ (lv_sub hl [0, 1] rfl) hP hS
  · replace h := if_t h hc
    refine lv_iload_n hx hb dMo_number_12 rfl (lv_at hl 1 rfl) ?_
    refine lv_sipush (v := (-999)) hx hb dMo_number_13 (by decide) ?_
    refine lv_icmp_lt (tgt := 26) hx hb dMo_number_16 (by decide) (fun hc => ?_) (fun hc => ?_)
    · replace h := if_t h hc
      exact J26 _ _ h _ _ _ (lv_sub hl [0, 1] rfl) hP hS
    · replace h := if_f h hc
      refine lv_iload_n hx hb dMo_number_19 rfl (lv_at hl 1 rfl) ?_
      refine lv_sipush (v := 999) hx hb dMo_number_20 (by decide) ?_
      refine lv_icmp_le (tgt := 28) hx hb dMo_number_23 (by decide) (fun hc => ?_) (fun hc => ?_)
      · replace h := if_t h hc
        refine lv_aload_n hx hb dMo_number_28 rfl (lv_at hl 0 rfl) ?_
        obtain ⟨rh2, σ3, h2, h⟩ := bn_some h
        refine q_cVv (rest := []) (As := []) cx hP hS hRk (c_Mo_begin l g hg h2) Y_Mo_begin V_Mo_begin t_677 (by decide) (by decide) (e_15 g _ _) rfl rfl hl.1 rfl (Nat.le_of_ble_eq_true rfl) dMo_number_29 (fun H locs hP hS => ?_)
        refine lv_aload_n hx hb dMo_number_32 rfl (lv_at hl 0 rfl) ?_
        refine g_Mo_kinds cx hP  t_532 dMo_number_33 ?_
        refine lv_aload_n hx hb dMo_number_36 rfl (lv_at hl 0 rfl) ?_
        refine g_Mo_cursor cx hP  t_531 dMo_number_37 ?_
        refine lv_iconst (v := 1) hx hb dMo_number_40 (by decide) ?_
        obtain ⟨b4, h⟩ := gd_some h
        obtain ⟨σ5, eσ5, h⟩ := lt_some h
        refine q_iast cx hP hS (by decide) (e_16 g) b4 dMo_number_41 eσ5 (fun H locs hP hS => ?_)
        refine lv_aload_n hx hb dMo_number_42 rfl (lv_at hl 0 rfl) ?_
        refine g_Mo_values cx hP  t_533 dMo_number_43 ?_
        refine lv_aload_n hx hb dMo_number_46 rfl (lv_at hl 0 rfl) ?_
        refine g_Mo_cursor cx hP  t_531 dMo_number_47 ?_
        refine lv_iload_n hx hb dMo_number_50 rfl (lv_at hl 1 rfl) ?_
        obtain ⟨b6, h⟩ := gd_some h
        obtain ⟨σ7, eσ7, h⟩ := lt_some h
        refine q_iast cx hP hS (by decide) (e_17 g) b6 dMo_number_51 eσ7 (fun H locs hP hS => ?_)
        refine lv_aload_n hx hb dMo_number_52 rfl (lv_at hl 0 rfl) ?_
        refine lv_aload_n hx hb dMo_number_53 rfl (lv_at hl 0 rfl) ?_
        refine g_Mo_cursor cx hP  t_531 dMo_number_54 ?_
        obtain ⟨r10, σ9, h8, h⟩ := bn_some h
        refine q_cVi (rest := []) (As := [.int (σ7.1 15 1)]) cx hP hS hRk (c_Mo_done l g hg h8) Y_Mo_done V_Mo_done t_681 (by decide) (by decide) (e_15 g _ _) rfl rfl hl.1 rfl (Nat.le_of_ble_eq_true rfl) dMo_number_57 (fun H locs hP hS => ?_)
        obtain ⟨b11, h⟩ := gd_some h
        exact q_ri cx hr (isB_n b11) hP hS hQ h dMo_number_60
      · replace h := if_f h hc
        exact J26 _ _ h _ _ _ (lv_sub hl [0, 1] rfl) hP hS
theorem dMo_name_0 : decode cMo_name 0 = .ok (.aload_n 0, 1) := by decide +kernel
theorem dMo_name_1 : decode cMo_name 1 = .ok (.getfield 13, 3) := by decide +kernel
theorem dMo_name_4 : decode cMo_name 4 = .ok (.aload_n 0, 1) := by decide +kernel
theorem dMo_name_5 : decode cMo_name 5 = .ok (.getfield 123, 3) := by decide +kernel
theorem dMo_name_8 : decode cMo_name 8 = .ok (.iaload, 1) := by decide +kernel
theorem dMo_name_9 : decode cMo_name 9 = .ok (.ifCond .ne 13, 3) := by decide +kernel
theorem dMo_name_12 : decode cMo_name 12 = .ok (.iload_n 1, 1) := by decide +kernel
theorem dMo_name_13 : decode cMo_name 13 = .ok (.ifCond .lt 9, 3) := by decide +kernel
theorem dMo_name_16 : decode cMo_name 16 = .ok (.iload_n 1, 1) := by decide +kernel
theorem dMo_name_17 : decode cMo_name 17 = .ok (.bipush 9, 2) := by decide +kernel
theorem dMo_name_19 : decode cMo_name 19 = .ok (.if_icmp .le 5, 3) := by decide +kernel
theorem dMo_name_22 : decode cMo_name 22 = .ok (.iconst 0, 1) := by decide +kernel
theorem dMo_name_23 : decode cMo_name 23 = .ok (.ireturn, 1) := by decide +kernel
theorem dMo_name_24 : decode cMo_name 24 = .ok (.aload_n 0, 1) := by decide +kernel
theorem dMo_name_25 : decode cMo_name 25 = .ok (.invokevirtual 152, 3) := by decide +kernel
theorem dMo_name_28 : decode cMo_name 28 = .ok (.aload_n 0, 1) := by decide +kernel
theorem dMo_name_29 : decode cMo_name 29 = .ok (.getfield 13, 3) := by decide +kernel
theorem dMo_name_32 : decode cMo_name 32 = .ok (.aload_n 0, 1) := by decide +kernel
theorem dMo_name_33 : decode cMo_name 33 = .ok (.getfield 123, 3) := by decide +kernel
theorem dMo_name_36 : decode cMo_name 36 = .ok (.iconst 2, 1) := by decide +kernel
theorem dMo_name_37 : decode cMo_name 37 = .ok (.iastore, 1) := by decide +kernel
theorem dMo_name_38 : decode cMo_name 38 = .ok (.aload_n 0, 1) := by decide +kernel
theorem dMo_name_39 : decode cMo_name 39 = .ok (.getfield 17, 3) := by decide +kernel
theorem dMo_name_42 : decode cMo_name 42 = .ok (.aload_n 0, 1) := by decide +kernel
theorem dMo_name_43 : decode cMo_name 43 = .ok (.getfield 123, 3) := by decide +kernel
theorem dMo_name_46 : decode cMo_name 46 = .ok (.iload_n 1, 1) := by decide +kernel
theorem dMo_name_47 : decode cMo_name 47 = .ok (.iastore, 1) := by decide +kernel
theorem dMo_name_48 : decode cMo_name 48 = .ok (.aload_n 0, 1) := by decide +kernel
theorem dMo_name_49 : decode cMo_name 49 = .ok (.aload_n 0, 1) := by decide +kernel
theorem dMo_name_50 : decode cMo_name 50 = .ok (.getfield 123, 3) := by decide +kernel
theorem dMo_name_53 : decode cMo_name 53 = .ok (.invokevirtual 155, 3) := by decide +kernel
theorem dMo_name_56 : decode cMo_name 56 = .ok (.ireturn, 1) := by decide +kernel
def f_Mo_name_J22  (v1 : Int32) (σ : Mem) : Option (Int32 × Mem) :=
  some ((0 : Int32), σ)
def f_Mo_name  (v1 : Int32) (σ : Mem) : Option (Int32 × Mem) :=
  gd (inb (σ.1 15 1) 48) (
  if (σ.1 16 (σ.1 15 1).toNatClampNeg) = 0 then (
  if v1 < 0 then (
  f_Mo_name_J22 v1 σ)
  else (
  if v1 ≤ (9 : Int32) then (
  bn (f_Mo_begin σ) fun (_ : Unit) (σ3 : Mem) =>
  gd (inb (σ3.1 15 1) 48) (lt_ (sI σ3 16 (σ3.1 15 1).toNatClampNeg (2 : Int32)) fun (σ5 : Mem) =>
  gd (inb (σ5.1 15 1) 48) (lt_ (sI σ5 17 (σ5.1 15 1).toNatClampNeg v1) fun (σ7 : Mem) =>
  bn (f_Mo_done (σ7.1 15 1) σ7) fun (r10 : Int32) (σ9 : Mem) =>
  gd (isB r10) (some (r10, σ9)))))
  else (
  f_Mo_name_J22 v1 σ)))
  else (
  f_Mo_name_J22 v1 σ))
set_option maxHeartbeats 4000000 in
set_option maxRecDepth 100000 in
theorem c_Mo_name (l : Launch) (g : Gw) (hg : wInj g) {v1 : Int32} {r0 : Int32} {σ σ0 : Mem} (h : f_Mo_name v1 σ = some (r0, σ0)) : KI l yMo_name cMo_name 2 (some .boolean) 4 g [.ref (ad g 15), .int v1] σ r0 σ0 := by
  refine q_met g hg (own := "TermBenchModel") rfl rfl (Nat.le_of_ble_eq_true rfl) (fun p e s m args below meth c R Q cx hRk hr hQ H locs ls hP hS hl => ?_)
  have hx := cx.1
  have hb := cx.2.1
  have hown := cx.2.2.2.1
  have hts := cx.2.2.2.2.1
  have hl : lv_has ls 2 [(0, .ref (ad g 15)), (1, .int v1)] := hl
  have J22 : ∀ (v1 : Int32) (σ : Mem), f_Mo_name_J22 v1 σ = some (r0, σ0) → ∀ (H : Heap) (locs : List Loc) (ls : Array Slot), lv_has ls 2 [(0, .ref (ad g 15)), (1, .int v1)] → Wd g σ H → va_S (wA g) s.heap H locs → W p l e R s m args below meth c H locs 0 0 Q (F0 m 22 ls []) := by
    intro v1 σ h H locs ls hl hP hS
    unfold f_Mo_name_J22 at h
    refine lv_iconst (v := 0) hx hb dMo_name_22 (by decide) ?_
    exact q_ri cx hr rfl hP hS hQ h dMo_name_23
  unfold f_Mo_name at h
  refine lv_aload_n hx hb dMo_name_0 rfl (lv_at hl 0 rfl) ?_
  refine g_Mo_kinds cx hP  t_532 dMo_name_1 ?_
  refine lv_aload_n hx hb dMo_name_4 rfl (lv_at hl 0 rfl) ?_
  refine g_Mo_cursor cx hP  t_531 dMo_name_5 ?_
  obtain ⟨b1, h⟩ := gd_some h
  refine q_iald cx hP (by decide) (e_16 g) b1 dMo_name_8 ?_
  refine lv_if_ne (tgt := 22) hx hb dMo_name_9 (by decide) (fun hc => ?_) (fun hc => ?_)
  · replace h := if_f h hc
    exact J22 _ _ h _ _ _ (lv_sub hl [0, 1] rfl) hP hS
  · replace h := if_t h hc
    refine lv_iload_n hx hb dMo_name_12 rfl (lv_at hl 1 rfl) ?_
    refine lv_if_lt (tgt := 22) hx hb dMo_name_13 (by decide) (fun hc => ?_) (fun hc => ?_)
    · replace h := if_t h hc
      exact J22 _ _ h _ _ _ (lv_sub hl [0, 1] rfl) hP hS
    · replace h := if_f h hc
      refine lv_iload_n hx hb dMo_name_16 rfl (lv_at hl 1 rfl) ?_
      refine lv_bipush (v := 9) hx hb dMo_name_17 (by decide) ?_
      refine lv_icmp_le (tgt := 24) hx hb dMo_name_19 (by decide) (fun hc => ?_) (fun hc => ?_)
      · replace h := if_t h hc
        refine lv_aload_n hx hb dMo_name_24 rfl (lv_at hl 0 rfl) ?_
        obtain ⟨rh2, σ3, h2, h⟩ := bn_some h
        refine q_cVv (rest := []) (As := []) cx hP hS hRk (c_Mo_begin l g hg h2) Y_Mo_begin V_Mo_begin t_677 (by decide) (by decide) (e_15 g _ _) rfl rfl hl.1 rfl (Nat.le_of_ble_eq_true rfl) dMo_name_25 (fun H locs hP hS => ?_)
        refine lv_aload_n hx hb dMo_name_28 rfl (lv_at hl 0 rfl) ?_
        refine g_Mo_kinds cx hP  t_532 dMo_name_29 ?_
        refine lv_aload_n hx hb dMo_name_32 rfl (lv_at hl 0 rfl) ?_
        refine g_Mo_cursor cx hP  t_531 dMo_name_33 ?_
        refine lv_iconst (v := 2) hx hb dMo_name_36 (by decide) ?_
        obtain ⟨b4, h⟩ := gd_some h
        obtain ⟨σ5, eσ5, h⟩ := lt_some h
        refine q_iast cx hP hS (by decide) (e_16 g) b4 dMo_name_37 eσ5 (fun H locs hP hS => ?_)
        refine lv_aload_n hx hb dMo_name_38 rfl (lv_at hl 0 rfl) ?_
        refine g_Mo_values cx hP  t_533 dMo_name_39 ?_
        refine lv_aload_n hx hb dMo_name_42 rfl (lv_at hl 0 rfl) ?_
        refine g_Mo_cursor cx hP  t_531 dMo_name_43 ?_
        refine lv_iload_n hx hb dMo_name_46 rfl (lv_at hl 1 rfl) ?_
        obtain ⟨b6, h⟩ := gd_some h
        obtain ⟨σ7, eσ7, h⟩ := lt_some h
        refine q_iast cx hP hS (by decide) (e_17 g) b6 dMo_name_47 eσ7 (fun H locs hP hS => ?_)
        refine lv_aload_n hx hb dMo_name_48 rfl (lv_at hl 0 rfl) ?_
        refine lv_aload_n hx hb dMo_name_49 rfl (lv_at hl 0 rfl) ?_
        refine g_Mo_cursor cx hP  t_531 dMo_name_50 ?_
        obtain ⟨r10, σ9, h8, h⟩ := bn_some h
        refine q_cVi (rest := []) (As := [.int (σ7.1 15 1)]) cx hP hS hRk (c_Mo_done l g hg h8) Y_Mo_done V_Mo_done t_681 (by decide) (by decide) (e_15 g _ _) rfl rfl hl.1 rfl (Nat.le_of_ble_eq_true rfl) dMo_name_53 (fun H locs hP hS => ?_)
        obtain ⟨b11, h⟩ := gd_some h
        exact q_ri cx hr (isB_n b11) hP hS hQ h dMo_name_56
      · replace h := if_f h hc
        exact J22 _ _ h _ _ _ (lv_sub hl [0, 1] rfl) hP hS
theorem dMo_pair_0 : decode cMo_pair 0 = .ok (.aload_n 0, 1) := by decide +kernel
theorem dMo_pair_1 : decode cMo_pair 1 = .ok (.invokevirtual 152, 3) := by decide +kernel
theorem dMo_pair_4 : decode cMo_pair 4 = .ok (.iload_n 2, 1) := by decide +kernel
theorem dMo_pair_5 : decode cMo_pair 5 = .ok (.ifCond .eq 10, 3) := by decide +kernel
theorem dMo_pair_8 : decode cMo_pair 8 = .ok (.aload_n 0, 1) := by decide +kernel
theorem dMo_pair_9 : decode cMo_pair 9 = .ok (.getfield 123, 3) := by decide +kernel
theorem dMo_pair_12 : decode cMo_pair 12 = .ok (.goto 11, 3) := by decide +kernel
theorem dMo_pair_15 : decode cMo_pair 15 = .ok (.aload_n 0, 1) := by decide +kernel
theorem dMo_pair_16 : decode cMo_pair 16 = .ok (.aload_n 0, 1) := by decide +kernel
theorem dMo_pair_17 : decode cMo_pair 17 = .ok (.getfield 123, 3) := by decide +kernel
theorem dMo_pair_20 : decode cMo_pair 20 = .ok (.invokevirtual 116, 3) := by decide +kernel
theorem dMo_pair_23 : decode cMo_pair 23 = .ok (.istore_n 3, 1) := by decide +kernel
theorem dMo_pair_24 : decode cMo_pair 24 = .ok (.aload_n 0, 1) := by decide +kernel
theorem dMo_pair_25 : decode cMo_pair 25 = .ok (.iload_n 3, 1) := by decide +kernel
theorem dMo_pair_26 : decode cMo_pair 26 = .ok (.iconst 0, 1) := by decide +kernel
theorem dMo_pair_27 : decode cMo_pair 27 = .ok (.iconst 0, 1) := by decide +kernel
theorem dMo_pair_28 : decode cMo_pair 28 = .ok (.lconst 0, 1) := by decide +kernel
theorem dMo_pair_29 : decode cMo_pair 29 = .ok (.invokevirtual 159, 3) := by decide +kernel
theorem dMo_pair_32 : decode cMo_pair 32 = .ok (.aload_n 0, 1) := by decide +kernel
theorem dMo_pair_33 : decode cMo_pair 33 = .ok (.aload_n 0, 1) := by decide +kernel
theorem dMo_pair_34 : decode cMo_pair 34 = .ok (.getfield 123, 3) := by decide +kernel
theorem dMo_pair_37 : decode cMo_pair 37 = .ok (.iload_n 1, 1) := by decide +kernel
theorem dMo_pair_38 : decode cMo_pair 38 = .ok (.iconst 0, 1) := by decide +kernel
theorem dMo_pair_39 : decode cMo_pair 39 = .ok (.lconst 0, 1) := by decide +kernel
theorem dMo_pair_40 : decode cMo_pair 40 = .ok (.invokevirtual 159, 3) := by decide +kernel
theorem dMo_pair_43 : decode cMo_pair 43 = .ok (.aload_n 0, 1) := by decide +kernel
theorem dMo_pair_44 : decode cMo_pair 44 = .ok (.iload_n 3, 1) := by decide +kernel
theorem dMo_pair_45 : decode cMo_pair 45 = .ok (.iconst 1, 1) := by decide +kernel
theorem dMo_pair_46 : decode cMo_pair 46 = .ok (.iadd, 1) := by decide +kernel
theorem dMo_pair_47 : decode cMo_pair 47 = .ok (.invokevirtual 155, 3) := by decide +kernel
theorem dMo_pair_50 : decode cMo_pair 50 = .ok (.ireturn, 1) := by decide +kernel
def f_Mo_pair_J23  (v1 : Int32) (v2 : Int32) (u0 : Int32) (σ : Mem) : Option (Int32 × Mem) :=
  bn (f_Mo_insert u0 (0 : Int32) (0 : Int32) (0 : Int64) σ) fun (_ : Unit) (σ2 : Mem) =>
  bn (f_Mo_insert (σ2.1 15 1) v1 (0 : Int32) (0 : Int64) σ2) fun (_ : Unit) (σ4 : Mem) =>
  bn (f_Mo_done (u0 + (1 : Int32)) σ4) fun (r7 : Int32) (σ6 : Mem) =>
  gd (isB r7) (some (r7, σ6))
def f_Mo_pair  (v1 : Int32) (v2 : Int32) (σ : Mem) : Option (Int32 × Mem) :=
  bn (f_Mo_begin σ) fun (_ : Unit) (σ10 : Mem) =>
  if v2 = 0 then (
  bn (f_Mo_end (σ10.1 15 1) σ10) fun (r13 : Int32) (σ12 : Mem) =>
  f_Mo_pair_J23 v1 v2 r13 σ12)
  else (
  f_Mo_pair_J23 v1 v2 (σ10.1 15 1) σ10)
set_option maxHeartbeats 4000000 in
set_option maxRecDepth 100000 in
theorem c_Mo_pair (l : Launch) (g : Gw) (hg : wInj g) {v1 : Int32} {v2 : Int32} {r0 : Int32} {σ σ0 : Mem} (h : f_Mo_pair v1 v2 σ = some (r0, σ0)) : KI l yMo_pair cMo_pair 4 (some .boolean) 4 g [.ref (ad g 15), .int v1, .int v2] σ r0 σ0 := by
  refine q_met g hg (own := "TermBenchModel") rfl rfl (Nat.le_of_ble_eq_true rfl) (fun p e s m args below meth c R Q cx hRk hr hQ H locs ls hP hS hl => ?_)
  have hx := cx.1
  have hb := cx.2.1
  have hown := cx.2.2.2.1
  have hts := cx.2.2.2.2.1
  have hl : lv_has ls 4 [(0, .ref (ad g 15)), (1, .int v1), (2, .int v2)] := hl
  have J23 : ∀ (v1 : Int32) (v2 : Int32) (u0 : Int32) (σ : Mem), f_Mo_pair_J23 v1 v2 u0 σ = some (r0, σ0) → ∀ (H : Heap) (locs : List Loc) (ls : Array Slot), lv_has ls 4 [(0, .ref (ad g 15)), (1, .int v1), (2, .int v2)] → Wd g σ H → va_S (wA g) s.heap H locs → W p l e R s m args below meth c H locs 0 0 Q (F0 m 23 ls [.int u0]) := by
    intro v1 v2 u0 σ h H locs ls hl hP hS
    unfold f_Mo_pair_J23 at h
    refine lv_istore_n (lv' := [(3, .int u0), (0, .ref (ad g 15)), (1, .int v1), (2, .int v2)]) hx hb dMo_pair_23 rfl hl (Nat.le_of_ble_eq_true rfl) rfl (fun ls hl => ?_)
    refine lv_aload_n hx hb dMo_pair_24 rfl (lv_at hl 1 rfl) ?_
    refine lv_iload_n hx hb dMo_pair_25 rfl (lv_at hl 0 rfl) ?_
    refine lv_iconst (v := 0) hx hb dMo_pair_26 (by decide) ?_
    refine lv_iconst (v := 0) hx hb dMo_pair_27 (by decide) ?_
    refine lv_lconst (v := 0) hx hb dMo_pair_28 rfl ?_
    obtain ⟨rh1, σ2, h1, h⟩ := bn_some h
    refine q_cVv (rest := []) (As := [.int u0, .int (0 : Int32), .int (0 : Int32), .long (0 : Int64)]) cx hP hS hRk (c_Mo_insert l g hg h1) Y_Mo_insert V_Mo_insert t_712 (by decide) (by decide) (e_15 g _ _) rfl rfl hl.1 rfl (Nat.le_of_ble_eq_true rfl) dMo_pair_29 (fun H locs hP hS => ?_)
    refine lv_aload_n hx hb dMo_pair_32 rfl (lv_at hl 1 rfl) ?_
    refine lv_aload_n hx hb dMo_pair_33 rfl (lv_at hl 1 rfl) ?_
    refine g_Mo_cursor cx hP  t_531 dMo_pair_34 ?_
    refine lv_iload_n hx hb dMo_pair_37 rfl (lv_at hl 2 rfl) ?_
    refine lv_iconst (v := 0) hx hb dMo_pair_38 (by decide) ?_
    refine lv_lconst (v := 0) hx hb dMo_pair_39 rfl ?_
    obtain ⟨rh3, σ4, h3, h⟩ := bn_some h
    refine q_cVv (rest := []) (As := [.int (σ2.1 15 1), .int v1, .int (0 : Int32), .long (0 : Int64)]) cx hP hS hRk (c_Mo_insert l g hg h3) Y_Mo_insert V_Mo_insert t_712 (by decide) (by decide) (e_15 g _ _) rfl rfl hl.1 rfl (Nat.le_of_ble_eq_true rfl) dMo_pair_40 (fun H locs hP hS => ?_)
    refine lv_aload_n hx hb dMo_pair_43 rfl (lv_at hl 1 rfl) ?_
    refine lv_iload_n hx hb dMo_pair_44 rfl (lv_at hl 0 rfl) ?_
    refine lv_iconst (v := 1) hx hb dMo_pair_45 (by decide) ?_
    refine lv_iadd hx hb dMo_pair_46 ?_
    obtain ⟨r7, σ6, h5, h⟩ := bn_some h
    refine q_cVi (rest := []) (As := [.int (u0 + (1 : Int32))]) cx hP hS hRk (c_Mo_done l g hg h5) Y_Mo_done V_Mo_done t_681 (by decide) (by decide) (e_15 g _ _) rfl rfl hl.1 rfl (Nat.le_of_ble_eq_true rfl) dMo_pair_47 (fun H locs hP hS => ?_)
    obtain ⟨b8, h⟩ := gd_some h
    exact q_ri cx hr (isB_n b8) hP hS hQ h dMo_pair_50
  unfold f_Mo_pair at h
  refine lv_aload_n hx hb dMo_pair_0 rfl (lv_at hl 0 rfl) ?_
  obtain ⟨rh9, σ10, h9, h⟩ := bn_some h
  refine q_cVv (rest := []) (As := []) cx hP hS hRk (c_Mo_begin l g hg h9) Y_Mo_begin V_Mo_begin t_677 (by decide) (by decide) (e_15 g _ _) rfl rfl hl.1 rfl (Nat.le_of_ble_eq_true rfl) dMo_pair_1 (fun H locs hP hS => ?_)
  refine lv_iload_n hx hb dMo_pair_4 rfl (lv_at hl 2 rfl) ?_
  refine lv_if_eq (tgt := 15) hx hb dMo_pair_5 (by decide) (fun hc => ?_) (fun hc => ?_)
  · replace h := if_t h hc
    refine lv_aload_n hx hb dMo_pair_15 rfl (lv_at hl 0 rfl) ?_
    refine lv_aload_n hx hb dMo_pair_16 rfl (lv_at hl 0 rfl) ?_
    refine g_Mo_cursor cx hP  t_531 dMo_pair_17 ?_
    obtain ⟨r13, σ12, h11, h⟩ := bn_some h
    refine q_cVi (rest := []) (As := [.int (σ10.1 15 1)]) cx hP hS hRk (c_Mo_end l g hg h11) Y_Mo_end V_Mo_end t_689 (by decide) (by decide) (e_15 g _ _) rfl rfl hl.1 rfl (Nat.le_of_ble_eq_true rfl) dMo_pair_20 (fun H locs hP hS => ?_)
    exact J23 _ _ _ _ h _ _ _ (lv_sub hl [0, 1, 2] rfl) hP hS
  · replace h := if_f h hc
    refine lv_aload_n hx hb dMo_pair_8 rfl (lv_at hl 0 rfl) ?_
    refine g_Mo_cursor cx hP  t_531 dMo_pair_9 ?_
    refine lv_goto (tgt := 23) hx hb dMo_pair_12 (by decide) ?_
    exact J23 _ _ _ _ h _ _ _ (lv_sub hl [0, 1, 2] rfl) hP hS
theorem dMo_sum_0 : decode cMo_sum 0 = .ok (.aload_n 0, 1) := by decide +kernel
theorem dMo_sum_1 : decode cMo_sum 1 = .ok (.iconst 3, 1) := by decide +kernel
theorem dMo_sum_2 : decode cMo_sum 2 = .ok (.iload_n 1, 1) := by decide +kernel
theorem dMo_sum_3 : decode cMo_sum 3 = .ok (.invokevirtual 163, 3) := by decide +kernel
theorem dMo_sum_6 : decode cMo_sum 6 = .ok (.ireturn, 1) := by decide +kernel
def f_Mo_sum  (v1 : Int32) (σ : Mem) : Option (Int32 × Mem) :=
  bn (f_Mo_pair (3 : Int32) v1 σ) fun (r3 : Int32) (σ2 : Mem) =>
  gd (isB r3) (some (r3, σ2))
set_option maxHeartbeats 4000000 in
set_option maxRecDepth 100000 in
theorem c_Mo_sum (l : Launch) (g : Gw) (hg : wInj g) {v1 : Int32} {r0 : Int32} {σ σ0 : Mem} (h : f_Mo_sum v1 σ = some (r0, σ0)) : KI l yMo_sum cMo_sum 2 (some .boolean) 5 g [.ref (ad g 15), .int v1] σ r0 σ0 := by
  refine q_met g hg (own := "TermBenchModel") rfl rfl (Nat.le_of_ble_eq_true rfl) (fun p e s m args below meth c R Q cx hRk hr hQ H locs ls hP hS hl => ?_)
  have hx := cx.1
  have hb := cx.2.1
  have hown := cx.2.2.2.1
  have hts := cx.2.2.2.2.1
  have hl : lv_has ls 2 [(0, .ref (ad g 15)), (1, .int v1)] := hl
  unfold f_Mo_sum at h
  refine lv_aload_n hx hb dMo_sum_0 rfl (lv_at hl 0 rfl) ?_
  refine lv_iconst (v := 3) hx hb dMo_sum_1 (by decide) ?_
  refine lv_iload_n hx hb dMo_sum_2 rfl (lv_at hl 1 rfl) ?_
  obtain ⟨r3, σ2, h1, h⟩ := bn_some h
  refine q_cVi (rest := []) (As := [.int (3 : Int32), .int v1]) cx hP hS hRk (c_Mo_pair l g hg h1) Y_Mo_pair V_Mo_pair t_708 (by decide) (by decide) (e_15 g _ _) rfl rfl hl.1 rfl (Nat.le_of_ble_eq_true rfl) dMo_sum_3 (fun H locs hP hS => ?_)
  obtain ⟨b4, h⟩ := gd_some h
  exact q_ri cx hr (isB_n b4) hP hS hQ h dMo_sum_6
theorem dMo_call_0 : decode cMo_call 0 = .ok (.aload_n 0, 1) := by decide +kernel
theorem dMo_call_1 : decode cMo_call 1 = .ok (.iconst 4, 1) := by decide +kernel
theorem dMo_call_2 : decode cMo_call 2 = .ok (.iload_n 1, 1) := by decide +kernel
theorem dMo_call_3 : decode cMo_call 3 = .ok (.invokevirtual 163, 3) := by decide +kernel
theorem dMo_call_6 : decode cMo_call 6 = .ok (.ireturn, 1) := by decide +kernel
def f_Mo_call  (v1 : Int32) (σ : Mem) : Option (Int32 × Mem) :=
  bn (f_Mo_pair (4 : Int32) v1 σ) fun (r3 : Int32) (σ2 : Mem) =>
  gd (isB r3) (some (r3, σ2))
set_option maxHeartbeats 4000000 in
set_option maxRecDepth 100000 in
theorem c_Mo_call (l : Launch) (g : Gw) (hg : wInj g) {v1 : Int32} {r0 : Int32} {σ σ0 : Mem} (h : f_Mo_call v1 σ = some (r0, σ0)) : KI l yMo_call cMo_call 2 (some .boolean) 5 g [.ref (ad g 15), .int v1] σ r0 σ0 := by
  refine q_met g hg (own := "TermBenchModel") rfl rfl (Nat.le_of_ble_eq_true rfl) (fun p e s m args below meth c R Q cx hRk hr hQ H locs ls hP hS hl => ?_)
  have hx := cx.1
  have hb := cx.2.1
  have hown := cx.2.2.2.1
  have hts := cx.2.2.2.2.1
  have hl : lv_has ls 2 [(0, .ref (ad g 15)), (1, .int v1)] := hl
  unfold f_Mo_call at h
  refine lv_aload_n hx hb dMo_call_0 rfl (lv_at hl 0 rfl) ?_
  refine lv_iconst (v := 4) hx hb dMo_call_1 (by decide) ?_
  refine lv_iload_n hx hb dMo_call_2 rfl (lv_at hl 1 rfl) ?_
  obtain ⟨r3, σ2, h1, h⟩ := bn_some h
  refine q_cVi (rest := []) (As := [.int (4 : Int32), .int v1]) cx hP hS hRk (c_Mo_pair l g hg h1) Y_Mo_pair V_Mo_pair t_708 (by decide) (by decide) (e_15 g _ _) rfl rfl hl.1 rfl (Nat.le_of_ble_eq_true rfl) dMo_call_3 (fun H locs hP hS => ?_)
  obtain ⟨b4, h⟩ := gd_some h
  exact q_ri cx hr (isB_n b4) hP hS hQ h dMo_call_6
theorem dMo_function_0 : decode cMo_function 0 = .ok (.iload_n 1, 1) := by decide +kernel
theorem dMo_function_1 : decode cMo_function 1 = .ok (.ifCond .lt 16, 3) := by decide +kernel
theorem dMo_function_4 : decode cMo_function 4 = .ok (.iload_n 1, 1) := by decide +kernel
theorem dMo_function_5 : decode cMo_function 5 = .ok (.bipush 9, 2) := by decide +kernel
theorem dMo_function_7 : decode cMo_function 7 = .ok (.if_icmp .gt 10, 3) := by decide +kernel
theorem dMo_function_10 : decode cMo_function 10 = .ok (.lload_n 2, 1) := by decide +kernel
theorem dMo_function_11 : decode cMo_function 11 = .ok (.invokestatic 167, 3) := by decide +kernel
theorem dMo_function_14 : decode cMo_function 14 = .ok (.ifCond .ne 5, 3) := by decide +kernel
theorem dMo_function_17 : decode cMo_function 17 = .ok (.iconst 0, 1) := by decide +kernel
theorem dMo_function_18 : decode cMo_function 18 = .ok (.ireturn, 1) := by decide +kernel
theorem dMo_function_19 : decode cMo_function 19 = .ok (.aload_n 0, 1) := by decide +kernel
theorem dMo_function_20 : decode cMo_function 20 = .ok (.invokevirtual 152, 3) := by decide +kernel
theorem dMo_function_23 : decode cMo_function 23 = .ok (.aload_n 0, 1) := by decide +kernel
theorem dMo_function_24 : decode cMo_function 24 = .ok (.aload_n 0, 1) := by decide +kernel
theorem dMo_function_25 : decode cMo_function 25 = .ok (.getfield 123, 3) := by decide +kernel
theorem dMo_function_28 : decode cMo_function 28 = .ok (.iconst 5, 1) := by decide +kernel
theorem dMo_function_29 : decode cMo_function 29 = .ok (.iload_n 1, 1) := by decide +kernel
theorem dMo_function_30 : decode cMo_function 30 = .ok (.lload_n 2, 1) := by decide +kernel
theorem dMo_function_31 : decode cMo_function 31 = .ok (.invokevirtual 159, 3) := by decide +kernel
theorem dMo_function_34 : decode cMo_function 34 = .ok (.aload_n 0, 1) := by decide +kernel
theorem dMo_function_35 : decode cMo_function 35 = .ok (.aload_n 0, 1) := by decide +kernel
theorem dMo_function_36 : decode cMo_function 36 = .ok (.getfield 123, 3) := by decide +kernel
theorem dMo_function_39 : decode cMo_function 39 = .ok (.iconst 1, 1) := by decide +kernel
theorem dMo_function_40 : decode cMo_function 40 = .ok (.iadd, 1) := by decide +kernel
theorem dMo_function_41 : decode cMo_function 41 = .ok (.invokevirtual 155, 3) := by decide +kernel
theorem dMo_function_44 : decode cMo_function 44 = .ok (.ireturn, 1) := by decide +kernel
def f_Mo_function_J17  (v1 : Int32) (v2 : Int64) (σ : Mem) : Option (Int32 × Mem) :=
  some ((0 : Int32), σ)
def f_Mo_function  (v1 : Int32) (v2 : Int64) (σ : Mem) : Option (Int32 × Mem) :=
  if v1 < 0 then (
  f_Mo_function_J17 v1 v2 σ)
  else (
  if (9 : Int32) < v1 then (
  f_Mo_function_J17 v1 v2 σ)
  else (
  bn (f_Mo_isType v2 σ) fun (r3 : Int32) (σ2 : Mem) =>
  if r3 = 0 then (
  f_Mo_function_J17 v1 v2 σ2)
  else (
  bn (f_Mo_begin σ2) fun (_ : Unit) (σ5 : Mem) =>
  bn (f_Mo_insert (σ5.1 15 1) (5 : Int32) v1 v2 σ5) fun (_ : Unit) (σ7 : Mem) =>
  bn (f_Mo_done ((σ7.1 15 1) + (1 : Int32)) σ7) fun (r10 : Int32) (σ9 : Mem) =>
  gd (isB r10) (some (r10, σ9)))))
set_option maxHeartbeats 4000000 in
set_option maxRecDepth 100000 in
theorem c_Mo_function (l : Launch) (g : Gw) (hg : wInj g) {v1 : Int32} {v2 : Int64} {r0 : Int32} {σ σ0 : Mem} (h : f_Mo_function v1 v2 σ = some (r0, σ0)) : KI l yMo_function cMo_function 4 (some .boolean) 4 g [.ref (ad g 15), .int v1, .long v2] σ r0 σ0 := by
  refine q_met g hg (own := "TermBenchModel") rfl rfl (Nat.le_of_ble_eq_true rfl) (fun p e s m args below meth c R Q cx hRk hr hQ H locs ls hP hS hl => ?_)
  have hx := cx.1
  have hb := cx.2.1
  have hown := cx.2.2.2.1
  have hts := cx.2.2.2.2.1
  have hl : lv_has ls 4 [(0, .ref (ad g 15)), (1, .int v1), (2, .long v2)] := hl
  have J17 : ∀ (v1 : Int32) (v2 : Int64) (σ : Mem), f_Mo_function_J17 v1 v2 σ = some (r0, σ0) → ∀ (H : Heap) (locs : List Loc) (ls : Array Slot), lv_has ls 4 [(0, .ref (ad g 15)), (1, .int v1), (2, .long v2)] → Wd g σ H → va_S (wA g) s.heap H locs → W p l e R s m args below meth c H locs 0 0 Q (F0 m 17 ls []) := by
    intro v1 v2 σ h H locs ls hl hP hS
    unfold f_Mo_function_J17 at h
    refine lv_iconst (v := 0) hx hb dMo_function_17 (by decide) ?_
    exact q_ri cx hr rfl hP hS hQ h dMo_function_18
  unfold f_Mo_function at h
  refine lv_iload_n hx hb dMo_function_0 rfl (lv_at hl 1 rfl) ?_
  refine lv_if_lt (tgt := 17) hx hb dMo_function_1 (by decide) (fun hc => ?_) (fun hc => ?_)
  · replace h := if_t h hc
    exact J17 _ _ _ h _ _ _ (lv_sub hl [0, 1, 2] rfl) hP hS
  · replace h := if_f h hc
    refine lv_iload_n hx hb dMo_function_4 rfl (lv_at hl 1 rfl) ?_
    refine lv_bipush (v := 9) hx hb dMo_function_5 (by decide) ?_
    refine lv_icmp_gt (tgt := 17) hx hb dMo_function_7 (by decide) (fun hc => ?_) (fun hc => ?_)
    · replace h := if_t h hc
      exact J17 _ _ _ h _ _ _ (lv_sub hl [0, 1, 2] rfl) hP hS
    · replace h := if_f h hc
      refine lv_lload_n hx hb dMo_function_10 rfl (lv_at hl 2 rfl) ?_
      obtain ⟨r3, σ2, h1, h⟩ := bn_some h
      refine q_cSi (rest := []) (As := [.long v2]) cx hP hS hRk (c_Mo_isType l g hg h1) Y_Mo_isType S_Mo_isType t_728 (by decide) rfl hl.1 rfl (Nat.le_of_ble_eq_true rfl) dMo_function_11 (fun H locs hP hS => ?_)
      refine lv_if_ne (tgt := 19) hx hb dMo_function_14 (by decide) (fun hc => ?_) (fun hc => ?_)
      · replace h := if_f h hc
        refine lv_aload_n hx hb dMo_function_19 rfl (lv_at hl 0 rfl) ?_
        obtain ⟨rh4, σ5, h4, h⟩ := bn_some h
        refine q_cVv (rest := []) (As := []) cx hP hS hRk (c_Mo_begin l g hg h4) Y_Mo_begin V_Mo_begin t_677 (by decide) (by decide) (e_15 g _ _) rfl rfl hl.1 rfl (Nat.le_of_ble_eq_true rfl) dMo_function_20 (fun H locs hP hS => ?_)
        refine lv_aload_n hx hb dMo_function_23 rfl (lv_at hl 0 rfl) ?_
        refine lv_aload_n hx hb dMo_function_24 rfl (lv_at hl 0 rfl) ?_
        refine g_Mo_cursor cx hP  t_531 dMo_function_25 ?_
        refine lv_iconst (v := 5) hx hb dMo_function_28 (by decide) ?_
        refine lv_iload_n hx hb dMo_function_29 rfl (lv_at hl 1 rfl) ?_
        refine lv_lload_n hx hb dMo_function_30 rfl (lv_at hl 2 rfl) ?_
        obtain ⟨rh6, σ7, h6, h⟩ := bn_some h
        refine q_cVv (rest := []) (As := [.int (σ5.1 15 1), .int (5 : Int32), .int v1, .long v2]) cx hP hS hRk (c_Mo_insert l g hg h6) Y_Mo_insert V_Mo_insert t_712 (by decide) (by decide) (e_15 g _ _) rfl rfl hl.1 rfl (Nat.le_of_ble_eq_true rfl) dMo_function_31 (fun H locs hP hS => ?_)
        refine lv_aload_n hx hb dMo_function_34 rfl (lv_at hl 0 rfl) ?_
        refine lv_aload_n hx hb dMo_function_35 rfl (lv_at hl 0 rfl) ?_
        refine g_Mo_cursor cx hP  t_531 dMo_function_36 ?_
        refine lv_iconst (v := 1) hx hb dMo_function_39 (by decide) ?_
        refine lv_iadd hx hb dMo_function_40 ?_
        obtain ⟨r10, σ9, h8, h⟩ := bn_some h
        refine q_cVi (rest := []) (As := [.int ((σ7.1 15 1) + (1 : Int32))]) cx hP hS hRk (c_Mo_done l g hg h8) Y_Mo_done V_Mo_done t_681 (by decide) (by decide) (e_15 g _ _) rfl rfl hl.1 rfl (Nat.le_of_ble_eq_true rfl) dMo_function_41 (fun H locs hP hS => ?_)
        obtain ⟨b11, h⟩ := gd_some h
        exact q_ri cx hr (isB_n b11) hP hS hQ h dMo_function_44
      · replace h := if_t h hc
        exact J17 _ _ _ h _ _ _ (lv_sub hl [0, 1, 2] rfl) hP hS
theorem dMo_claim_0 : decode cMo_claim 0 = .ok (.lload_n 1, 1) := by decide +kernel
theorem dMo_claim_1 : decode cMo_claim 1 = .ok (.invokestatic 167, 3) := by decide +kernel
theorem dMo_claim_4 : decode cMo_claim 4 = .ok (.ifCond .ne 5, 3) := by decide +kernel
theorem dMo_claim_7 : decode cMo_claim 7 = .ok (.iconst 0, 1) := by decide +kernel
theorem dMo_claim_8 : decode cMo_claim 8 = .ok (.ireturn, 1) := by decide +kernel
theorem dMo_claim_9 : decode cMo_claim 9 = .ok (.aload_n 0, 1) := by decide +kernel
theorem dMo_claim_10 : decode cMo_claim 10 = .ok (.invokevirtual 152, 3) := by decide +kernel
theorem dMo_claim_13 : decode cMo_claim 13 = .ok (.aload_n 0, 1) := by decide +kernel
theorem dMo_claim_14 : decode cMo_claim 14 = .ok (.aload_n 0, 1) := by decide +kernel
theorem dMo_claim_15 : decode cMo_claim 15 = .ok (.getfield 123, 3) := by decide +kernel
theorem dMo_claim_18 : decode cMo_claim 18 = .ok (.bipush 6, 2) := by decide +kernel
theorem dMo_claim_20 : decode cMo_claim 20 = .ok (.iconst 0, 1) := by decide +kernel
theorem dMo_claim_21 : decode cMo_claim 21 = .ok (.lload_n 1, 1) := by decide +kernel
theorem dMo_claim_22 : decode cMo_claim 22 = .ok (.invokevirtual 159, 3) := by decide +kernel
theorem dMo_claim_25 : decode cMo_claim 25 = .ok (.aload_n 0, 1) := by decide +kernel
theorem dMo_claim_26 : decode cMo_claim 26 = .ok (.aload_n 0, 1) := by decide +kernel
theorem dMo_claim_27 : decode cMo_claim 27 = .ok (.getfield 123, 3) := by decide +kernel
theorem dMo_claim_30 : decode cMo_claim 30 = .ok (.iconst 1, 1) := by decide +kernel
theorem dMo_claim_31 : decode cMo_claim 31 = .ok (.iadd, 1) := by decide +kernel
theorem dMo_claim_32 : decode cMo_claim 32 = .ok (.invokevirtual 155, 3) := by decide +kernel
theorem dMo_claim_35 : decode cMo_claim 35 = .ok (.ireturn, 1) := by decide +kernel
def f_Mo_claim  (v1 : Int64) (σ : Mem) : Option (Int32 × Mem) :=
  bn (f_Mo_isType v1 σ) fun (r3 : Int32) (σ2 : Mem) =>
  if r3 = 0 then (
  some ((0 : Int32), σ2))
  else (
  bn (f_Mo_begin σ2) fun (_ : Unit) (σ5 : Mem) =>
  bn (f_Mo_insert (σ5.1 15 1) (6 : Int32) (0 : Int32) v1 σ5) fun (_ : Unit) (σ7 : Mem) =>
  bn (f_Mo_done ((σ7.1 15 1) + (1 : Int32)) σ7) fun (r10 : Int32) (σ9 : Mem) =>
  gd (isB r10) (some (r10, σ9)))
set_option maxHeartbeats 4000000 in
set_option maxRecDepth 100000 in
theorem c_Mo_claim (l : Launch) (g : Gw) (hg : wInj g) {v1 : Int64} {r0 : Int32} {σ σ0 : Mem} (h : f_Mo_claim v1 σ = some (r0, σ0)) : KI l yMo_claim cMo_claim 3 (some .boolean) 4 g [.ref (ad g 15), .long v1] σ r0 σ0 := by
  refine q_met g hg (own := "TermBenchModel") rfl rfl (Nat.le_of_ble_eq_true rfl) (fun p e s m args below meth c R Q cx hRk hr hQ H locs ls hP hS hl => ?_)
  have hx := cx.1
  have hb := cx.2.1
  have hown := cx.2.2.2.1
  have hts := cx.2.2.2.2.1
  have hl : lv_has ls 3 [(0, .ref (ad g 15)), (1, .long v1)] := hl
  unfold f_Mo_claim at h
  refine lv_lload_n hx hb dMo_claim_0 rfl (lv_at hl 1 rfl) ?_
  obtain ⟨r3, σ2, h1, h⟩ := bn_some h
  refine q_cSi (rest := []) (As := [.long v1]) cx hP hS hRk (c_Mo_isType l g hg h1) Y_Mo_isType S_Mo_isType t_728 (by decide) rfl hl.1 rfl (Nat.le_of_ble_eq_true rfl) dMo_claim_1 (fun H locs hP hS => ?_)
  refine lv_if_ne (tgt := 9) hx hb dMo_claim_4 (by decide) (fun hc => ?_) (fun hc => ?_)
  · replace h := if_f h hc
    refine lv_aload_n hx hb dMo_claim_9 rfl (lv_at hl 0 rfl) ?_
    obtain ⟨rh4, σ5, h4, h⟩ := bn_some h
    refine q_cVv (rest := []) (As := []) cx hP hS hRk (c_Mo_begin l g hg h4) Y_Mo_begin V_Mo_begin t_677 (by decide) (by decide) (e_15 g _ _) rfl rfl hl.1 rfl (Nat.le_of_ble_eq_true rfl) dMo_claim_10 (fun H locs hP hS => ?_)
    refine lv_aload_n hx hb dMo_claim_13 rfl (lv_at hl 0 rfl) ?_
    refine lv_aload_n hx hb dMo_claim_14 rfl (lv_at hl 0 rfl) ?_
    refine g_Mo_cursor cx hP  t_531 dMo_claim_15 ?_
    refine lv_bipush (v := 6) hx hb dMo_claim_18 (by decide) ?_
    refine lv_iconst (v := 0) hx hb dMo_claim_20 (by decide) ?_
    refine lv_lload_n hx hb dMo_claim_21 rfl (lv_at hl 1 rfl) ?_
    obtain ⟨rh6, σ7, h6, h⟩ := bn_some h
    refine q_cVv (rest := []) (As := [.int (σ5.1 15 1), .int (6 : Int32), .int (0 : Int32), .long v1]) cx hP hS hRk (c_Mo_insert l g hg h6) Y_Mo_insert V_Mo_insert t_712 (by decide) (by decide) (e_15 g _ _) rfl rfl hl.1 rfl (Nat.le_of_ble_eq_true rfl) dMo_claim_22 (fun H locs hP hS => ?_)
    refine lv_aload_n hx hb dMo_claim_25 rfl (lv_at hl 0 rfl) ?_
    refine lv_aload_n hx hb dMo_claim_26 rfl (lv_at hl 0 rfl) ?_
    refine g_Mo_cursor cx hP  t_531 dMo_claim_27 ?_
    refine lv_iconst (v := 1) hx hb dMo_claim_30 (by decide) ?_
    refine lv_iadd hx hb dMo_claim_31 ?_
    obtain ⟨r10, σ9, h8, h⟩ := bn_some h
    refine q_cVi (rest := []) (As := [.int ((σ7.1 15 1) + (1 : Int32))]) cx hP hS hRk (c_Mo_done l g hg h8) Y_Mo_done V_Mo_done t_681 (by decide) (by decide) (e_15 g _ _) rfl rfl hl.1 rfl (Nat.le_of_ble_eq_true rfl) dMo_claim_32 (fun H locs hP hS => ?_)
    obtain ⟨b11, h⟩ := gd_some h
    exact q_ri cx hr (isB_n b11) hP hS hQ h dMo_claim_35
  · replace h := if_t h hc
    refine lv_iconst (v := 0) hx hb dMo_claim_7 (by decide) ?_
    exact q_ri cx hr rfl hP hS hQ h dMo_claim_8
theorem dMo_remove_0 : decode cMo_remove 0 = .ok (.aload_n 0, 1) := by decide +kernel
theorem dMo_remove_1 : decode cMo_remove 1 = .ok (.getfield 13, 3) := by decide +kernel
theorem dMo_remove_4 : decode cMo_remove 4 = .ok (.aload_n 0, 1) := by decide +kernel
theorem dMo_remove_5 : decode cMo_remove 5 = .ok (.getfield 123, 3) := by decide +kernel
theorem dMo_remove_8 : decode cMo_remove 8 = .ok (.iaload, 1) := by decide +kernel
theorem dMo_remove_9 : decode cMo_remove 9 = .ok (.ifCond .ne 5, 3) := by decide +kernel
theorem dMo_remove_12 : decode cMo_remove 12 = .ok (.iconst 0, 1) := by decide +kernel
theorem dMo_remove_13 : decode cMo_remove 13 = .ok (.ireturn, 1) := by decide +kernel
theorem dMo_remove_14 : decode cMo_remove 14 = .ok (.aload_n 0, 1) := by decide +kernel
theorem dMo_remove_15 : decode cMo_remove 15 = .ok (.invokevirtual 152, 3) := by decide +kernel
theorem dMo_remove_18 : decode cMo_remove 18 = .ok (.aload_n 0, 1) := by decide +kernel
theorem dMo_remove_19 : decode cMo_remove 19 = .ok (.aload_n 0, 1) := by decide +kernel
theorem dMo_remove_20 : decode cMo_remove 20 = .ok (.getfield 123, 3) := by decide +kernel
theorem dMo_remove_23 : decode cMo_remove 23 = .ok (.iconst 1, 1) := by decide +kernel
theorem dMo_remove_24 : decode cMo_remove 24 = .ok (.iadd, 1) := by decide +kernel
theorem dMo_remove_25 : decode cMo_remove 25 = .ok (.aload_n 0, 1) := by decide +kernel
theorem dMo_remove_26 : decode cMo_remove 26 = .ok (.aload_n 0, 1) := by decide +kernel
theorem dMo_remove_27 : decode cMo_remove 27 = .ok (.getfield 123, 3) := by decide +kernel
theorem dMo_remove_30 : decode cMo_remove 30 = .ok (.invokevirtual 116, 3) := by decide +kernel
theorem dMo_remove_33 : decode cMo_remove 33 = .ok (.invokevirtual 171, 3) := by decide +kernel
theorem dMo_remove_36 : decode cMo_remove 36 = .ok (.aload_n 0, 1) := by decide +kernel
theorem dMo_remove_37 : decode cMo_remove 37 = .ok (.getfield 13, 3) := by decide +kernel
theorem dMo_remove_40 : decode cMo_remove 40 = .ok (.aload_n 0, 1) := by decide +kernel
theorem dMo_remove_41 : decode cMo_remove 41 = .ok (.getfield 123, 3) := by decide +kernel
theorem dMo_remove_44 : decode cMo_remove 44 = .ok (.iconst 0, 1) := by decide +kernel
theorem dMo_remove_45 : decode cMo_remove 45 = .ok (.iastore, 1) := by decide +kernel
theorem dMo_remove_46 : decode cMo_remove 46 = .ok (.aload_n 0, 1) := by decide +kernel
theorem dMo_remove_47 : decode cMo_remove 47 = .ok (.aload_n 0, 1) := by decide +kernel
theorem dMo_remove_48 : decode cMo_remove 48 = .ok (.getfield 123, 3) := by decide +kernel
theorem dMo_remove_51 : decode cMo_remove 51 = .ok (.invokevirtual 155, 3) := by decide +kernel
theorem dMo_remove_54 : decode cMo_remove 54 = .ok (.ireturn, 1) := by decide +kernel
def f_Mo_remove   (σ : Mem) : Option (Int32 × Mem) :=
  gd (inb (σ.1 15 1) 48) (
  if (σ.1 16 (σ.1 15 1).toNatClampNeg) = 0 then (
  some ((0 : Int32), σ))
  else (
  bn (f_Mo_begin σ) fun (_ : Unit) (σ3 : Mem) =>
  bn (f_Mo_end (σ3.1 15 1) σ3) fun (r6 : Int32) (σ5 : Mem) =>
  bn (f_Mo_takeOut ((σ3.1 15 1) + (1 : Int32)) r6 σ5) fun (_ : Unit) (σ8 : Mem) =>
  gd (inb (σ8.1 15 1) 48) (lt_ (sI σ8 16 (σ8.1 15 1).toNatClampNeg (0 : Int32)) fun (σ10 : Mem) =>
  bn (f_Mo_done (σ10.1 15 1) σ10) fun (r13 : Int32) (σ12 : Mem) =>
  gd (isB r13) (some (r13, σ12)))))
set_option maxHeartbeats 4000000 in
set_option maxRecDepth 100000 in
theorem c_Mo_remove (l : Launch) (g : Gw) (hg : wInj g) {r0 : Int32} {σ σ0 : Mem} (h : f_Mo_remove σ = some (r0, σ0)) : KI l yMo_remove cMo_remove 1 (some .boolean) 4 g [.ref (ad g 15)] σ r0 σ0 := by
  refine q_met g hg (own := "TermBenchModel") rfl rfl (Nat.le_of_ble_eq_true rfl) (fun p e s m args below meth c R Q cx hRk hr hQ H locs ls hP hS hl => ?_)
  have hx := cx.1
  have hb := cx.2.1
  have hown := cx.2.2.2.1
  have hts := cx.2.2.2.2.1
  have hl : lv_has ls 1 [(0, .ref (ad g 15))] := hl
  unfold f_Mo_remove at h
  refine lv_aload_n hx hb dMo_remove_0 rfl (lv_at hl 0 rfl) ?_
  refine g_Mo_kinds cx hP  t_532 dMo_remove_1 ?_
  refine lv_aload_n hx hb dMo_remove_4 rfl (lv_at hl 0 rfl) ?_
  refine g_Mo_cursor cx hP  t_531 dMo_remove_5 ?_
  obtain ⟨b1, h⟩ := gd_some h
  refine q_iald cx hP (by decide) (e_16 g) b1 dMo_remove_8 ?_
  refine lv_if_ne (tgt := 14) hx hb dMo_remove_9 (by decide) (fun hc => ?_) (fun hc => ?_)
  · replace h := if_f h hc
    refine lv_aload_n hx hb dMo_remove_14 rfl (lv_at hl 0 rfl) ?_
    obtain ⟨rh2, σ3, h2, h⟩ := bn_some h
    refine q_cVv (rest := []) (As := []) cx hP hS hRk (c_Mo_begin l g hg h2) Y_Mo_begin V_Mo_begin t_677 (by decide) (by decide) (e_15 g _ _) rfl rfl hl.1 rfl (Nat.le_of_ble_eq_true rfl) dMo_remove_15 (fun H locs hP hS => ?_)
    refine lv_aload_n hx hb dMo_remove_18 rfl (lv_at hl 0 rfl) ?_
    refine lv_aload_n hx hb dMo_remove_19 rfl (lv_at hl 0 rfl) ?_
    refine g_Mo_cursor cx hP  t_531 dMo_remove_20 ?_
    refine lv_iconst (v := 1) hx hb dMo_remove_23 (by decide) ?_
    refine lv_iadd hx hb dMo_remove_24 ?_
    refine lv_aload_n hx hb dMo_remove_25 rfl (lv_at hl 0 rfl) ?_
    refine lv_aload_n hx hb dMo_remove_26 rfl (lv_at hl 0 rfl) ?_
    refine g_Mo_cursor cx hP  t_531 dMo_remove_27 ?_
    obtain ⟨r6, σ5, h4, h⟩ := bn_some h
    refine q_cVi (rest := [.int ((σ3.1 15 1) + (1 : Int32)), .ref (ad g 15)]) (As := [.int (σ3.1 15 1)]) cx hP hS hRk (c_Mo_end l g hg h4) Y_Mo_end V_Mo_end t_689 (by decide) (by decide) (e_15 g _ _) rfl rfl hl.1 rfl (Nat.le_of_ble_eq_true rfl) dMo_remove_30 (fun H locs hP hS => ?_)
    obtain ⟨rh7, σ8, h7, h⟩ := bn_some h
    refine q_cVv (rest := []) (As := [.int ((σ3.1 15 1) + (1 : Int32)), .int r6]) cx hP hS hRk (c_Mo_takeOut l g hg h7) Y_Mo_takeOut V_Mo_takeOut t_746 (by decide) (by decide) (e_15 g _ _) rfl rfl hl.1 rfl (Nat.le_of_ble_eq_true rfl) dMo_remove_33 (fun H locs hP hS => ?_)
    refine lv_aload_n hx hb dMo_remove_36 rfl (lv_at hl 0 rfl) ?_
    refine g_Mo_kinds cx hP  t_532 dMo_remove_37 ?_
    refine lv_aload_n hx hb dMo_remove_40 rfl (lv_at hl 0 rfl) ?_
    refine g_Mo_cursor cx hP  t_531 dMo_remove_41 ?_
    refine lv_iconst (v := 0) hx hb dMo_remove_44 (by decide) ?_
    obtain ⟨b9, h⟩ := gd_some h
    obtain ⟨σ10, eσ10, h⟩ := lt_some h
    refine q_iast cx hP hS (by decide) (e_16 g) b9 dMo_remove_45 eσ10 (fun H locs hP hS => ?_)
    refine lv_aload_n hx hb dMo_remove_46 rfl (lv_at hl 0 rfl) ?_
    refine lv_aload_n hx hb dMo_remove_47 rfl (lv_at hl 0 rfl) ?_
    refine g_Mo_cursor cx hP  t_531 dMo_remove_48 ?_
    obtain ⟨r13, σ12, h11, h⟩ := bn_some h
    refine q_cVi (rest := []) (As := [.int (σ10.1 15 1)]) cx hP hS hRk (c_Mo_done l g hg h11) Y_Mo_done V_Mo_done t_681 (by decide) (by decide) (e_15 g _ _) rfl rfl hl.1 rfl (Nat.le_of_ble_eq_true rfl) dMo_remove_51 (fun H locs hP hS => ?_)
    obtain ⟨b14, h⟩ := gd_some h
    exact q_ri cx hr (isB_n b14) hP hS hQ h dMo_remove_54
  · replace h := if_t h hc
    refine lv_iconst (v := 0) hx hb dMo_remove_12 (by decide) ?_
    exact q_ri cx hr rfl hP hS hQ h dMo_remove_13
theorem dMo_lift_0 : decode cMo_lift 0 = .ok (.aload_n 0, 1) := by decide +kernel
theorem dMo_lift_1 : decode cMo_lift 1 = .ok (.aload_n 0, 1) := by decide +kernel
theorem dMo_lift_2 : decode cMo_lift 2 = .ok (.getfield 123, 3) := by decide +kernel
theorem dMo_lift_5 : decode cMo_lift 5 = .ok (.invokevirtual 174, 3) := by decide +kernel
theorem dMo_lift_8 : decode cMo_lift 8 = .ok (.istore_n 1, 1) := by decide +kernel
theorem dMo_lift_9 : decode cMo_lift 9 = .ok (.iload_n 1, 1) := by decide +kernel
theorem dMo_lift_10 : decode cMo_lift 10 = .ok (.ifCond .ge 5, 3) := by decide +kernel
theorem dMo_lift_13 : decode cMo_lift 13 = .ok (.iconst 0, 1) := by decide +kernel
theorem dMo_lift_14 : decode cMo_lift 14 = .ok (.ireturn, 1) := by decide +kernel
theorem dMo_lift_15 : decode cMo_lift 15 = .ok (.aload_n 0, 1) := by decide +kernel
theorem dMo_lift_16 : decode cMo_lift 16 = .ok (.invokevirtual 152, 3) := by decide +kernel
theorem dMo_lift_19 : decode cMo_lift 19 = .ok (.aload_n 0, 1) := by decide +kernel
theorem dMo_lift_20 : decode cMo_lift 20 = .ok (.iload_n 1, 1) := by decide +kernel
theorem dMo_lift_21 : decode cMo_lift 21 = .ok (.invokevirtual 116, 3) := by decide +kernel
theorem dMo_lift_24 : decode cMo_lift 24 = .ok (.istore_n 2, 1) := by decide +kernel
theorem dMo_lift_25 : decode cMo_lift 25 = .ok (.aload_n 0, 1) := by decide +kernel
theorem dMo_lift_26 : decode cMo_lift 26 = .ok (.aload_n 0, 1) := by decide +kernel
theorem dMo_lift_27 : decode cMo_lift 27 = .ok (.getfield 123, 3) := by decide +kernel
theorem dMo_lift_30 : decode cMo_lift 30 = .ok (.invokevirtual 116, 3) := by decide +kernel
theorem dMo_lift_33 : decode cMo_lift 33 = .ok (.istore_n 3, 1) := by decide +kernel
theorem dMo_lift_34 : decode cMo_lift 34 = .ok (.aload_n 0, 1) := by decide +kernel
theorem dMo_lift_35 : decode cMo_lift 35 = .ok (.iload_n 3, 1) := by decide +kernel
theorem dMo_lift_36 : decode cMo_lift 36 = .ok (.iload_n 2, 1) := by decide +kernel
theorem dMo_lift_37 : decode cMo_lift 37 = .ok (.invokevirtual 171, 3) := by decide +kernel
theorem dMo_lift_40 : decode cMo_lift 40 = .ok (.aload_n 0, 1) := by decide +kernel
theorem dMo_lift_41 : decode cMo_lift 41 = .ok (.iload_n 1, 1) := by decide +kernel
theorem dMo_lift_42 : decode cMo_lift 42 = .ok (.aload_n 0, 1) := by decide +kernel
theorem dMo_lift_43 : decode cMo_lift 43 = .ok (.getfield 123, 3) := by decide +kernel
theorem dMo_lift_46 : decode cMo_lift 46 = .ok (.invokevirtual 171, 3) := by decide +kernel
theorem dMo_lift_49 : decode cMo_lift 49 = .ok (.aload_n 0, 1) := by decide +kernel
theorem dMo_lift_50 : decode cMo_lift 50 = .ok (.iload_n 1, 1) := by decide +kernel
theorem dMo_lift_51 : decode cMo_lift 51 = .ok (.invokevirtual 155, 3) := by decide +kernel
theorem dMo_lift_54 : decode cMo_lift 54 = .ok (.ireturn, 1) := by decide +kernel
def f_Mo_lift   (σ : Mem) : Option (Int32 × Mem) :=
  bn (f_Mo_above (σ.1 15 1) σ) fun (r3 : Int32) (σ2 : Mem) =>
  if 0 ≤ r3 then (
  bn (f_Mo_begin σ2) fun (_ : Unit) (σ5 : Mem) =>
  bn (f_Mo_end r3 σ5) fun (r8 : Int32) (σ7 : Mem) =>
  bn (f_Mo_end (σ7.1 15 1) σ7) fun (r11 : Int32) (σ10 : Mem) =>
  bn (f_Mo_takeOut r11 r8 σ10) fun (_ : Unit) (σ13 : Mem) =>
  bn (f_Mo_takeOut r3 (σ13.1 15 1) σ13) fun (_ : Unit) (σ15 : Mem) =>
  bn (f_Mo_done r3 σ15) fun (r18 : Int32) (σ17 : Mem) =>
  gd (isB r18) (some (r18, σ17)))
  else (
  some ((0 : Int32), σ2))
set_option maxHeartbeats 4000000 in
set_option maxRecDepth 100000 in
theorem c_Mo_lift (l : Launch) (g : Gw) (hg : wInj g) {r0 : Int32} {σ σ0 : Mem} (h : f_Mo_lift σ = some (r0, σ0)) : KI l yMo_lift cMo_lift 4 (some .boolean) 4 g [.ref (ad g 15)] σ r0 σ0 := by
  refine q_met g hg (own := "TermBenchModel") rfl rfl (Nat.le_of_ble_eq_true rfl) (fun p e s m args below meth c R Q cx hRk hr hQ H locs ls hP hS hl => ?_)
  have hx := cx.1
  have hb := cx.2.1
  have hown := cx.2.2.2.1
  have hts := cx.2.2.2.2.1
  have hl : lv_has ls 4 [(0, .ref (ad g 15))] := hl
  unfold f_Mo_lift at h
  refine lv_aload_n hx hb dMo_lift_0 rfl (lv_at hl 0 rfl) ?_
  refine lv_aload_n hx hb dMo_lift_1 rfl (lv_at hl 0 rfl) ?_
  refine g_Mo_cursor cx hP  t_531 dMo_lift_2 ?_
  obtain ⟨r3, σ2, h1, h⟩ := bn_some h
  refine q_cVi (rest := []) (As := [.int (σ.1 15 1)]) cx hP hS hRk (c_Mo_above l g hg h1) Y_Mo_above V_Mo_above t_754 (by decide) (by decide) (e_15 g _ _) rfl rfl hl.1 rfl (Nat.le_of_ble_eq_true rfl) dMo_lift_5 (fun H locs hP hS => ?_)
  refine lv_istore_n (lv' := [(1, .int r3), (0, .ref (ad g 15))]) hx hb dMo_lift_8 rfl hl (Nat.le_of_ble_eq_true rfl) rfl (fun ls hl => ?_)
  refine lv_iload_n hx hb dMo_lift_9 rfl (lv_at hl 0 rfl) ?_
  refine lv_if_ge (tgt := 15) hx hb dMo_lift_10 (by decide) (fun hc => ?_) (fun hc => ?_)
  · replace h := if_t h hc
    refine lv_aload_n hx hb dMo_lift_15 rfl (lv_at hl 1 rfl) ?_
    obtain ⟨rh4, σ5, h4, h⟩ := bn_some h
    refine q_cVv (rest := []) (As := []) cx hP hS hRk (c_Mo_begin l g hg h4) Y_Mo_begin V_Mo_begin t_677 (by decide) (by decide) (e_15 g _ _) rfl rfl hl.1 rfl (Nat.le_of_ble_eq_true rfl) dMo_lift_16 (fun H locs hP hS => ?_)
    refine lv_aload_n hx hb dMo_lift_19 rfl (lv_at hl 1 rfl) ?_
    refine lv_iload_n hx hb dMo_lift_20 rfl (lv_at hl 0 rfl) ?_
    obtain ⟨r8, σ7, h6, h⟩ := bn_some h
    refine q_cVi (rest := []) (As := [.int r3]) cx hP hS hRk (c_Mo_end l g hg h6) Y_Mo_end V_Mo_end t_689 (by decide) (by decide) (e_15 g _ _) rfl rfl hl.1 rfl (Nat.le_of_ble_eq_true rfl) dMo_lift_21 (fun H locs hP hS => ?_)
    refine lv_istore_n (lv' := [(2, .int r8), (1, .int r3), (0, .ref (ad g 15))]) hx hb dMo_lift_24 rfl hl (Nat.le_of_ble_eq_true rfl) rfl (fun ls hl => ?_)
    refine lv_aload_n hx hb dMo_lift_25 rfl (lv_at hl 2 rfl) ?_
    refine lv_aload_n hx hb dMo_lift_26 rfl (lv_at hl 2 rfl) ?_
    refine g_Mo_cursor cx hP  t_531 dMo_lift_27 ?_
    obtain ⟨r11, σ10, h9, h⟩ := bn_some h
    refine q_cVi (rest := []) (As := [.int (σ7.1 15 1)]) cx hP hS hRk (c_Mo_end l g hg h9) Y_Mo_end V_Mo_end t_689 (by decide) (by decide) (e_15 g _ _) rfl rfl hl.1 rfl (Nat.le_of_ble_eq_true rfl) dMo_lift_30 (fun H locs hP hS => ?_)
    refine lv_istore_n (lv' := [(3, .int r11), (2, .int r8), (1, .int r3), (0, .ref (ad g 15))]) hx hb dMo_lift_33 rfl hl (Nat.le_of_ble_eq_true rfl) rfl (fun ls hl => ?_)
    refine lv_aload_n hx hb dMo_lift_34 rfl (lv_at hl 3 rfl) ?_
    refine lv_iload_n hx hb dMo_lift_35 rfl (lv_at hl 0 rfl) ?_
    refine lv_iload_n hx hb dMo_lift_36 rfl (lv_at hl 1 rfl) ?_
    obtain ⟨rh12, σ13, h12, h⟩ := bn_some h
    refine q_cVv (rest := []) (As := [.int r11, .int r8]) cx hP hS hRk (c_Mo_takeOut l g hg h12) Y_Mo_takeOut V_Mo_takeOut t_746 (by decide) (by decide) (e_15 g _ _) rfl rfl hl.1 rfl (Nat.le_of_ble_eq_true rfl) dMo_lift_37 (fun H locs hP hS => ?_)
    refine lv_aload_n hx hb dMo_lift_40 rfl (lv_at hl 3 rfl) ?_
    refine lv_iload_n hx hb dMo_lift_41 rfl (lv_at hl 2 rfl) ?_
    refine lv_aload_n hx hb dMo_lift_42 rfl (lv_at hl 3 rfl) ?_
    refine g_Mo_cursor cx hP  t_531 dMo_lift_43 ?_
    obtain ⟨rh14, σ15, h14, h⟩ := bn_some h
    refine q_cVv (rest := []) (As := [.int r3, .int (σ13.1 15 1)]) cx hP hS hRk (c_Mo_takeOut l g hg h14) Y_Mo_takeOut V_Mo_takeOut t_746 (by decide) (by decide) (e_15 g _ _) rfl rfl hl.1 rfl (Nat.le_of_ble_eq_true rfl) dMo_lift_46 (fun H locs hP hS => ?_)
    refine lv_aload_n hx hb dMo_lift_49 rfl (lv_at hl 3 rfl) ?_
    refine lv_iload_n hx hb dMo_lift_50 rfl (lv_at hl 2 rfl) ?_
    obtain ⟨r18, σ17, h16, h⟩ := bn_some h
    refine q_cVi (rest := []) (As := [.int r3]) cx hP hS hRk (c_Mo_done l g hg h16) Y_Mo_done V_Mo_done t_681 (by decide) (by decide) (e_15 g _ _) rfl rfl hl.1 rfl (Nat.le_of_ble_eq_true rfl) dMo_lift_51 (fun H locs hP hS => ?_)
    obtain ⟨b19, h⟩ := gd_some h
    exact q_ri cx hr (isB_n b19) hP hS hQ h dMo_lift_54
  · replace h := if_f h hc
    refine lv_iconst (v := 0) hx hb dMo_lift_13 (by decide) ?_
    exact q_ri cx hr rfl hP hS hQ h dMo_lift_14
theorem dMo_up_0 : decode cMo_up 0 = .ok (.aload_n 0, 1) := by decide +kernel
theorem dMo_up_1 : decode cMo_up 1 = .ok (.aload_n 0, 1) := by decide +kernel
theorem dMo_up_2 : decode cMo_up 2 = .ok (.getfield 123, 3) := by decide +kernel
theorem dMo_up_5 : decode cMo_up 5 = .ok (.invokevirtual 174, 3) := by decide +kernel
theorem dMo_up_8 : decode cMo_up 8 = .ok (.istore_n 1, 1) := by decide +kernel
theorem dMo_up_9 : decode cMo_up 9 = .ok (.aload_n 0, 1) := by decide +kernel
theorem dMo_up_10 : decode cMo_up 10 = .ok (.iload_n 1, 1) := by decide +kernel
theorem dMo_up_11 : decode cMo_up 11 = .ok (.ifCond .ge 10, 3) := by decide +kernel
theorem dMo_up_14 : decode cMo_up 14 = .ok (.aload_n 0, 1) := by decide +kernel
theorem dMo_up_15 : decode cMo_up 15 = .ok (.getfield 123, 3) := by decide +kernel
theorem dMo_up_18 : decode cMo_up 18 = .ok (.goto 4, 3) := by decide +kernel
theorem dMo_up_21 : decode cMo_up 21 = .ok (.iload_n 1, 1) := by decide +kernel
theorem dMo_up_22 : decode cMo_up 22 = .ok (.putfield 123, 3) := by decide +kernel
theorem dMo_up_25 : decode cMo_up 25 = .ok (.iload_n 1, 1) := by decide +kernel
theorem dMo_up_26 : decode cMo_up 26 = .ok (.ifCond .lt 7, 3) := by decide +kernel
theorem dMo_up_29 : decode cMo_up 29 = .ok (.iconst 1, 1) := by decide +kernel
theorem dMo_up_30 : decode cMo_up 30 = .ok (.goto 4, 3) := by decide +kernel
theorem dMo_up_33 : decode cMo_up 33 = .ok (.iconst 0, 1) := by decide +kernel
theorem dMo_up_34 : decode cMo_up 34 = .ok (.ireturn, 1) := by decide +kernel
def f_Mo_up_J34  (v1 : Int32) (u0 : Int32) (σ : Mem) : Option (Int32 × Mem) :=
  gd (isB u0) (some (u0, σ))
def f_Mo_up_J22  (v1 : Int32) (u1 : Int32) (σ : Mem) : Option (Int32 × Mem) :=
  lt_ (sI σ 15 1 u1) fun (σ2 : Mem) =>
  if v1 < 0 then (
  f_Mo_up_J34 v1 (0 : Int32) σ2)
  else (
  f_Mo_up_J34 v1 (1 : Int32) σ2)
def f_Mo_up   (σ : Mem) : Option (Int32 × Mem) :=
  bn (f_Mo_above (σ.1 15 1) σ) fun (r5 : Int32) (σ4 : Mem) =>
  if 0 ≤ r5 then (
  f_Mo_up_J22 r5 r5 σ4)
  else (
  f_Mo_up_J22 r5 (σ4.1 15 1) σ4)
set_option maxHeartbeats 4000000 in
set_option maxRecDepth 100000 in
theorem c_Mo_up (l : Launch) (g : Gw) (hg : wInj g) {r0 : Int32} {σ σ0 : Mem} (h : f_Mo_up σ = some (r0, σ0)) : KI l yMo_up cMo_up 2 (some .boolean) 3 g [.ref (ad g 15)] σ r0 σ0 := by
  refine q_met g hg (own := "TermBenchModel") rfl rfl (Nat.le_of_ble_eq_true rfl) (fun p e s m args below meth c R Q cx hRk hr hQ H locs ls hP hS hl => ?_)
  have hx := cx.1
  have hb := cx.2.1
  have hown := cx.2.2.2.1
  have hts := cx.2.2.2.2.1
  have hl : lv_has ls 2 [(0, .ref (ad g 15))] := hl
  have J34 : ∀ (v1 : Int32) (u0 : Int32) (σ : Mem), f_Mo_up_J34 v1 u0 σ = some (r0, σ0) → ∀ (H : Heap) (locs : List Loc) (ls : Array Slot), lv_has ls 2 [(0, .ref (ad g 15)), (1, .int v1)] → Wd g σ H → va_S (wA g) s.heap H locs → W p l e R s m args below meth c H locs 0 0 Q (F0 m 34 ls [.int u0]) := by
    intro v1 u0 σ h H locs ls hl hP hS
    unfold f_Mo_up_J34 at h
    obtain ⟨b1, h⟩ := gd_some h
    exact q_ri cx hr (isB_n b1) hP hS hQ h dMo_up_34
  have J22 : ∀ (v1 : Int32) (u1 : Int32) (σ : Mem), f_Mo_up_J22 v1 u1 σ = some (r0, σ0) → ∀ (H : Heap) (locs : List Loc) (ls : Array Slot), lv_has ls 2 [(0, .ref (ad g 15)), (1, .int v1)] → Wd g σ H → va_S (wA g) s.heap H locs → W p l e R s m args below meth c H locs 0 0 Q (F0 m 22 ls [.int u1, .ref (ad g 15)]) := by
    intro v1 u1 σ h H locs ls hl hP hS
    unfold f_Mo_up_J22 at h
    obtain ⟨σ2, eσ2, h⟩ := lt_some h
    refine p_Mo_cursor cx hP hS t_531 dMo_up_22 eσ2 (fun H locs hP hS => ?_)
    refine lv_iload_n hx hb dMo_up_25 rfl (lv_at hl 1 rfl) ?_
    refine lv_if_lt (tgt := 33) hx hb dMo_up_26 (by decide) (fun hc => ?_) (fun hc => ?_)
    · replace h := if_t h hc
      refine lv_iconst (v := 0) hx hb dMo_up_33 (by decide) ?_
      exact J34 _ _ _ h _ _ _ (lv_sub hl [0, 1] rfl) hP hS
    · replace h := if_f h hc
      refine lv_iconst (v := 1) hx hb dMo_up_29 (by decide) ?_
      refine lv_goto (tgt := 34) hx hb dMo_up_30 (by decide) ?_
      exact J34 _ _ _ h _ _ _ (lv_sub hl [0, 1] rfl) hP hS
  unfold f_Mo_up at h
  refine lv_aload_n hx hb dMo_up_0 rfl (lv_at hl 0 rfl) ?_
  refine lv_aload_n hx hb dMo_up_1 rfl (lv_at hl 0 rfl) ?_
  refine g_Mo_cursor cx hP  t_531 dMo_up_2 ?_
  obtain ⟨r5, σ4, h3, h⟩ := bn_some h
  refine q_cVi (rest := []) (As := [.int (σ.1 15 1)]) cx hP hS hRk (c_Mo_above l g hg h3) Y_Mo_above V_Mo_above t_754 (by decide) (by decide) (e_15 g _ _) rfl rfl hl.1 rfl (Nat.le_of_ble_eq_true rfl) dMo_up_5 (fun H locs hP hS => ?_)
  refine lv_istore_n (lv' := [(1, .int r5), (0, .ref (ad g 15))]) hx hb dMo_up_8 rfl hl (Nat.le_of_ble_eq_true rfl) rfl (fun ls hl => ?_)
  refine lv_aload_n hx hb dMo_up_9 rfl (lv_at hl 1 rfl) ?_
  refine lv_iload_n hx hb dMo_up_10 rfl (lv_at hl 0 rfl) ?_
  refine lv_if_ge (tgt := 21) hx hb dMo_up_11 (by decide) (fun hc => ?_) (fun hc => ?_)
  · replace h := if_t h hc
    refine lv_iload_n hx hb dMo_up_21 rfl (lv_at hl 0 rfl) ?_
    exact J22 _ _ _ h _ _ _ (lv_sub hl [1, 0] rfl) hP hS
  · replace h := if_f h hc
    refine lv_aload_n hx hb dMo_up_14 rfl (lv_at hl 1 rfl) ?_
    refine g_Mo_cursor cx hP  t_531 dMo_up_15 ?_
    refine lv_goto (tgt := 22) hx hb dMo_up_18 (by decide) ?_
    exact J22 _ _ _ h _ _ _ (lv_sub hl [1, 0] rfl) hP hS
theorem dMo_down_0 : decode cMo_down 0 = .ok (.iload_n 1, 1) := by decide +kernel
theorem dMo_down_1 : decode cMo_down 1 = .ok (.ifCond .lt 19, 3) := by decide +kernel
theorem dMo_down_4 : decode cMo_down 4 = .ok (.iload_n 1, 1) := by decide +kernel
theorem dMo_down_5 : decode cMo_down 5 = .ok (.aload_n 0, 1) := by decide +kernel
theorem dMo_down_6 : decode cMo_down 6 = .ok (.getfield 13, 3) := by decide +kernel
theorem dMo_down_9 : decode cMo_down 9 = .ok (.aload_n 0, 1) := by decide +kernel
theorem dMo_down_10 : decode cMo_down 10 = .ok (.getfield 123, 3) := by decide +kernel
theorem dMo_down_13 : decode cMo_down 13 = .ok (.iaload, 1) := by decide +kernel
theorem dMo_down_14 : decode cMo_down 14 = .ok (.invokestatic 112, 3) := by decide +kernel
theorem dMo_down_17 : decode cMo_down 17 = .ok (.if_icmp .lt 5, 3) := by decide +kernel
theorem dMo_down_20 : decode cMo_down 20 = .ok (.iconst 0, 1) := by decide +kernel
theorem dMo_down_21 : decode cMo_down 21 = .ok (.ireturn, 1) := by decide +kernel
theorem dMo_down_22 : decode cMo_down 22 = .ok (.aload_n 0, 1) := by decide +kernel
theorem dMo_down_23 : decode cMo_down 23 = .ok (.aload_n 0, 1) := by decide +kernel
theorem dMo_down_24 : decode cMo_down 24 = .ok (.aload_n 0, 1) := by decide +kernel
theorem dMo_down_25 : decode cMo_down 25 = .ok (.getfield 123, 3) := by decide +kernel
theorem dMo_down_28 : decode cMo_down 28 = .ok (.iload_n 1, 1) := by decide +kernel
theorem dMo_down_29 : decode cMo_down 29 = .ok (.invokevirtual 177, 3) := by decide +kernel
theorem dMo_down_32 : decode cMo_down 32 = .ok (.putfield 123, 3) := by decide +kernel
theorem dMo_down_35 : decode cMo_down 35 = .ok (.iconst 1, 1) := by decide +kernel
theorem dMo_down_36 : decode cMo_down 36 = .ok (.ireturn, 1) := by decide +kernel
def f_Mo_down_J20  (v1 : Int32) (σ : Mem) : Option (Int32 × Mem) :=
  some ((0 : Int32), σ)
def f_Mo_down  (v1 : Int32) (σ : Mem) : Option (Int32 × Mem) :=
  if v1 < 0 then (
  f_Mo_down_J20 v1 σ)
  else (
  gd (inb (σ.1 15 1) 48) (
  bn (f_Mo_parts (σ.1 16 (σ.1 15 1).toNatClampNeg) σ) fun (r4 : Int32) (σ3 : Mem) =>
  if v1 < r4 then (
  bn (f_Mo_part (σ3.1 15 1) v1 σ3) fun (r7 : Int32) (σ6 : Mem) =>
  lt_ (sI σ6 15 1 r7) fun (σ8 : Mem) =>
  some ((1 : Int32), σ8))
  else (
  f_Mo_down_J20 v1 σ3)))
set_option maxHeartbeats 4000000 in
set_option maxRecDepth 100000 in
theorem c_Mo_down (l : Launch) (g : Gw) (hg : wInj g) {v1 : Int32} {r0 : Int32} {σ σ0 : Mem} (h : f_Mo_down v1 σ = some (r0, σ0)) : KI l yMo_down cMo_down 2 (some .boolean) 3 g [.ref (ad g 15), .int v1] σ r0 σ0 := by
  refine q_met g hg (own := "TermBenchModel") rfl rfl (Nat.le_of_ble_eq_true rfl) (fun p e s m args below meth c R Q cx hRk hr hQ H locs ls hP hS hl => ?_)
  have hx := cx.1
  have hb := cx.2.1
  have hown := cx.2.2.2.1
  have hts := cx.2.2.2.2.1
  have hl : lv_has ls 2 [(0, .ref (ad g 15)), (1, .int v1)] := hl
  have J20 : ∀ (v1 : Int32) (σ : Mem), f_Mo_down_J20 v1 σ = some (r0, σ0) → ∀ (H : Heap) (locs : List Loc) (ls : Array Slot), lv_has ls 2 [(0, .ref (ad g 15)), (1, .int v1)] → Wd g σ H → va_S (wA g) s.heap H locs → W p l e R s m args below meth c H locs 0 0 Q (F0 m 20 ls []) := by
    intro v1 σ h H locs ls hl hP hS
    unfold f_Mo_down_J20 at h
    refine lv_iconst (v := 0) hx hb dMo_down_20 (by decide) ?_
    exact q_ri cx hr rfl hP hS hQ h dMo_down_21
  unfold f_Mo_down at h
  refine lv_iload_n hx hb dMo_down_0 rfl (lv_at hl 1 rfl) ?_
  refine lv_if_lt (tgt := 20) hx hb dMo_down_1 (by decide) (fun hc => ?_) (fun hc => ?_)
  · replace h := if_t h hc
    exact J20 _ _ h _ _ _ (lv_sub hl [0, 1] rfl) hP hS
  · replace h := if_f h hc
    refine lv_iload_n hx hb dMo_down_4 rfl (lv_at hl 1 rfl) ?_
    refine lv_aload_n hx hb dMo_down_5 rfl (lv_at hl 0 rfl) ?_
    refine g_Mo_kinds cx hP  t_532 dMo_down_6 ?_
    refine lv_aload_n hx hb dMo_down_9 rfl (lv_at hl 0 rfl) ?_
    refine g_Mo_cursor cx hP  t_531 dMo_down_10 ?_
    obtain ⟨b1, h⟩ := gd_some h
    refine q_iald cx hP (by decide) (e_16 g) b1 dMo_down_13 ?_
    obtain ⟨r4, σ3, h2, h⟩ := bn_some h
    refine q_cSi (rest := [.int v1]) (As := [.int (σ.1 16 (σ.1 15 1).toNatClampNeg)]) cx hP hS hRk (c_Mo_parts l g hg h2) Y_Mo_parts S_Mo_parts t_693 (by decide) rfl hl.1 rfl (Nat.le_of_ble_eq_true rfl) dMo_down_14 (fun H locs hP hS => ?_)
    refine lv_icmp_lt (tgt := 22) hx hb dMo_down_17 (by decide) (fun hc => ?_) (fun hc => ?_)
    · replace h := if_t h hc
      refine lv_aload_n hx hb dMo_down_22 rfl (lv_at hl 0 rfl) ?_
      refine lv_aload_n hx hb dMo_down_23 rfl (lv_at hl 0 rfl) ?_
      refine lv_aload_n hx hb dMo_down_24 rfl (lv_at hl 0 rfl) ?_
      refine g_Mo_cursor cx hP  t_531 dMo_down_25 ?_
      refine lv_iload_n hx hb dMo_down_28 rfl (lv_at hl 1 rfl) ?_
      obtain ⟨r7, σ6, h5, h⟩ := bn_some h
      refine q_cVi (rest := [.ref (ad g 15)]) (As := [.int (σ3.1 15 1), .int v1]) cx hP hS hRk (c_Mo_part l g hg h5) Y_Mo_part V_Mo_part t_766 (by decide) (by decide) (e_15 g _ _) rfl rfl hl.1 rfl (Nat.le_of_ble_eq_true rfl) dMo_down_29 (fun H locs hP hS => ?_)
      obtain ⟨σ8, eσ8, h⟩ := lt_some h
      refine p_Mo_cursor cx hP hS t_531 dMo_down_32 eσ8 (fun H locs hP hS => ?_)
      refine lv_iconst (v := 1) hx hb dMo_down_35 (by decide) ?_
      exact q_ri cx hr rfl hP hS hQ h dMo_down_36
    · replace h := if_f h hc
      exact J20 _ _ h _ _ _ (lv_sub hl [0, 1] rfl) hP hS
theorem dMo_put_0 : decode cMo_put 0 = .ok (.aload_n 0, 1) := by decide +kernel
theorem dMo_put_1 : decode cMo_put 1 = .ok (.getfield 48, 3) := by decide +kernel
theorem dMo_put_4 : decode cMo_put 4 = .ok (.aload_n 0, 1) := by decide +kernel
theorem dMo_put_5 : decode cMo_put 5 = .ok (.getfield 184, 3) := by decide +kernel
theorem dMo_put_8 : decode cMo_put 8 = .ok (.iload_n 1, 1) := by decide +kernel
theorem dMo_put_9 : decode cMo_put 9 = .ok (.iastore, 1) := by decide +kernel
theorem dMo_put_10 : decode cMo_put 10 = .ok (.aload_n 0, 1) := by decide +kernel
theorem dMo_put_11 : decode cMo_put 11 = .ok (.getfield 51, 3) := by decide +kernel
theorem dMo_put_14 : decode cMo_put 14 = .ok (.aload_n 0, 1) := by decide +kernel
theorem dMo_put_15 : decode cMo_put 15 = .ok (.getfield 184, 3) := by decide +kernel
theorem dMo_put_18 : decode cMo_put 18 = .ok (.iload_n 2, 1) := by decide +kernel
theorem dMo_put_19 : decode cMo_put 19 = .ok (.iastore, 1) := by decide +kernel
theorem dMo_put_20 : decode cMo_put 20 = .ok (.aload_n 0, 1) := by decide +kernel
theorem dMo_put_21 : decode cMo_put 21 = .ok (.dup, 1) := by decide +kernel
theorem dMo_put_22 : decode cMo_put 22 = .ok (.getfield 184, 3) := by decide +kernel
theorem dMo_put_25 : decode cMo_put 25 = .ok (.iconst 1, 1) := by decide +kernel
theorem dMo_put_26 : decode cMo_put 26 = .ok (.iadd, 1) := by decide +kernel
theorem dMo_put_27 : decode cMo_put 27 = .ok (.putfield 184, 3) := by decide +kernel
theorem dMo_put_30 : decode cMo_put 30 = .ok (.return_, 1) := by decide +kernel
def f_Mo_put  (v1 : Int32) (v2 : Int32) (σ : Mem) : Option (Unit × Mem) :=
  gd (inb (σ.1 15 17) 2400) (lt_ (sI σ 27 (σ.1 15 17).toNatClampNeg v1) fun (σ2 : Mem) =>
  gd (inb (σ2.1 15 17) 2400) (lt_ (sI σ2 28 (σ2.1 15 17).toNatClampNeg v2) fun (σ4 : Mem) =>
  lt_ (sI σ4 15 17 ((σ4.1 15 17) + (1 : Int32))) fun (σ5 : Mem) =>
  some ((), σ5)))
set_option maxHeartbeats 4000000 in
set_option maxRecDepth 100000 in
theorem c_Mo_put (l : Launch) (g : Gw) (hg : wInj g) {v1 : Int32} {v2 : Int32} {σ σ0 : Mem} (h : f_Mo_put v1 v2 σ = some ((), σ0)) : KV l yMo_put cMo_put 3 none 0 g [.ref (ad g 15), .int v1, .int v2] σ σ0 := by
  refine q_met g hg (own := "TermBenchModel") rfl rfl (Nat.le_of_ble_eq_true rfl) (fun p e s m args below meth c R Q cx hRk hr hQ H locs ls hP hS hl => ?_)
  have hx := cx.1
  have hb := cx.2.1
  have hown := cx.2.2.2.1
  have hts := cx.2.2.2.2.1
  have hl : lv_has ls 3 [(0, .ref (ad g 15)), (1, .int v1), (2, .int v2)] := hl
  unfold f_Mo_put at h
  refine lv_aload_n hx hb dMo_put_0 rfl (lv_at hl 0 rfl) ?_
  refine g_Mo_letters cx hP  t_548 dMo_put_1 ?_
  refine lv_aload_n hx hb dMo_put_4 rfl (lv_at hl 0 rfl) ?_
  refine g_Mo_length cx hP  t_547 dMo_put_5 ?_
  refine lv_iload_n hx hb dMo_put_8 rfl (lv_at hl 1 rfl) ?_
  obtain ⟨b1, h⟩ := gd_some h
  obtain ⟨σ2, eσ2, h⟩ := lt_some h
  refine q_iast cx hP hS (by decide) (e_27 g) b1 dMo_put_9 eσ2 (fun H locs hP hS => ?_)
  refine lv_aload_n hx hb dMo_put_10 rfl (lv_at hl 0 rfl) ?_
  refine g_Mo_owner cx hP  t_549 dMo_put_11 ?_
  refine lv_aload_n hx hb dMo_put_14 rfl (lv_at hl 0 rfl) ?_
  refine g_Mo_length cx hP  t_547 dMo_put_15 ?_
  refine lv_iload_n hx hb dMo_put_18 rfl (lv_at hl 2 rfl) ?_
  obtain ⟨b3, h⟩ := gd_some h
  obtain ⟨σ4, eσ4, h⟩ := lt_some h
  refine q_iast cx hP hS (by decide) (e_28 g) b3 dMo_put_19 eσ4 (fun H locs hP hS => ?_)
  refine lv_aload_n hx hb dMo_put_20 rfl (lv_at hl 0 rfl) ?_
  refine lv_dup hx hb dMo_put_21 rfl ?_
  refine g_Mo_length cx hP  t_547 dMo_put_22 ?_
  refine lv_iconst (v := 1) hx hb dMo_put_25 (by decide) ?_
  refine lv_iadd hx hb dMo_put_26 ?_
  obtain ⟨σ5, eσ5, h⟩ := lt_some h
  refine p_Mo_length cx hP hS t_547 dMo_put_27 eσ5 (fun H locs hP hS => ?_)
  exact q_rv cx hr hP hS hQ h dMo_put_30
theorem dMo_putNumber_0 : decode cMo_putNumber 0 = .ok (.iload_n 1, 1) := by decide +kernel
theorem dMo_putNumber_1 : decode cMo_putNumber 1 = .ok (.ifCond .ge 8, 3) := by decide +kernel
theorem dMo_putNumber_4 : decode cMo_putNumber 4 = .ok (.iload_n 1, 1) := by decide +kernel
theorem dMo_putNumber_5 : decode cMo_putNumber 5 = .ok (.ineg, 1) := by decide +kernel
theorem dMo_putNumber_6 : decode cMo_putNumber 6 = .ok (.goto 4, 3) := by decide +kernel
theorem dMo_putNumber_9 : decode cMo_putNumber 9 = .ok (.iload_n 1, 1) := by decide +kernel
theorem dMo_putNumber_10 : decode cMo_putNumber 10 = .ok (.istore_n 3, 1) := by decide +kernel
theorem dMo_putNumber_11 : decode cMo_putNumber 11 = .ok (.iload_n 1, 1) := by decide +kernel
theorem dMo_putNumber_12 : decode cMo_putNumber 12 = .ok (.ifCond .ge 10, 3) := by decide +kernel
theorem dMo_putNumber_15 : decode cMo_putNumber 15 = .ok (.aload_n 0, 1) := by decide +kernel
theorem dMo_putNumber_16 : decode cMo_putNumber 16 = .ok (.bipush 45, 2) := by decide +kernel
theorem dMo_putNumber_18 : decode cMo_putNumber 18 = .ok (.iload_n 2, 1) := by decide +kernel
theorem dMo_putNumber_19 : decode cMo_putNumber 19 = .ok (.invokevirtual 187, 3) := by decide +kernel
theorem dMo_putNumber_22 : decode cMo_putNumber 22 = .ok (.iload_n 3, 1) := by decide +kernel
theorem dMo_putNumber_23 : decode cMo_putNumber 23 = .ok (.bipush 99, 2) := by decide +kernel
theorem dMo_putNumber_25 : decode cMo_putNumber 25 = .ok (.if_icmp .le 15, 3) := by decide +kernel
theorem dMo_putNumber_28 : decode cMo_putNumber 28 = .ok (.aload_n 0, 1) := by decide +kernel
theorem dMo_putNumber_29 : decode cMo_putNumber 29 = .ok (.bipush 48, 2) := by decide +kernel
theorem dMo_putNumber_31 : decode cMo_putNumber 31 = .ok (.iload_n 3, 1) := by decide +kernel
theorem dMo_putNumber_32 : decode cMo_putNumber 32 = .ok (.bipush 100, 2) := by decide +kernel
theorem dMo_putNumber_34 : decode cMo_putNumber 34 = .ok (.idiv, 1) := by decide +kernel
theorem dMo_putNumber_35 : decode cMo_putNumber 35 = .ok (.iadd, 1) := by decide +kernel
theorem dMo_putNumber_36 : decode cMo_putNumber 36 = .ok (.iload_n 2, 1) := by decide +kernel
theorem dMo_putNumber_37 : decode cMo_putNumber 37 = .ok (.invokevirtual 187, 3) := by decide +kernel
theorem dMo_putNumber_40 : decode cMo_putNumber 40 = .ok (.iload_n 3, 1) := by decide +kernel
theorem dMo_putNumber_41 : decode cMo_putNumber 41 = .ok (.bipush 9, 2) := by decide +kernel
theorem dMo_putNumber_43 : decode cMo_putNumber 43 = .ok (.if_icmp .le 18, 3) := by decide +kernel
theorem dMo_putNumber_46 : decode cMo_putNumber 46 = .ok (.aload_n 0, 1) := by decide +kernel
theorem dMo_putNumber_47 : decode cMo_putNumber 47 = .ok (.bipush 48, 2) := by decide +kernel
theorem dMo_putNumber_49 : decode cMo_putNumber 49 = .ok (.iload_n 3, 1) := by decide +kernel
theorem dMo_putNumber_50 : decode cMo_putNumber 50 = .ok (.bipush 10, 2) := by decide +kernel
theorem dMo_putNumber_52 : decode cMo_putNumber 52 = .ok (.idiv, 1) := by decide +kernel
theorem dMo_putNumber_53 : decode cMo_putNumber 53 = .ok (.bipush 10, 2) := by decide +kernel
theorem dMo_putNumber_55 : decode cMo_putNumber 55 = .ok (.irem, 1) := by decide +kernel
theorem dMo_putNumber_56 : decode cMo_putNumber 56 = .ok (.iadd, 1) := by decide +kernel
theorem dMo_putNumber_57 : decode cMo_putNumber 57 = .ok (.iload_n 2, 1) := by decide +kernel
theorem dMo_putNumber_58 : decode cMo_putNumber 58 = .ok (.invokevirtual 187, 3) := by decide +kernel
theorem dMo_putNumber_61 : decode cMo_putNumber 61 = .ok (.aload_n 0, 1) := by decide +kernel
theorem dMo_putNumber_62 : decode cMo_putNumber 62 = .ok (.bipush 48, 2) := by decide +kernel
theorem dMo_putNumber_64 : decode cMo_putNumber 64 = .ok (.iload_n 3, 1) := by decide +kernel
theorem dMo_putNumber_65 : decode cMo_putNumber 65 = .ok (.bipush 10, 2) := by decide +kernel
theorem dMo_putNumber_67 : decode cMo_putNumber 67 = .ok (.irem, 1) := by decide +kernel
theorem dMo_putNumber_68 : decode cMo_putNumber 68 = .ok (.iadd, 1) := by decide +kernel
theorem dMo_putNumber_69 : decode cMo_putNumber 69 = .ok (.iload_n 2, 1) := by decide +kernel
theorem dMo_putNumber_70 : decode cMo_putNumber 70 = .ok (.invokevirtual 187, 3) := by decide +kernel
theorem dMo_putNumber_73 : decode cMo_putNumber 73 = .ok (.return_, 1) := by decide +kernel
def f_Mo_putNumber_J61  (v1 : Int32) (v2 : Int32) (v3 : Int32) (σ : Mem) : Option (Unit × Mem) :=
  bn (f_Mo_put ((48 : Int32) + (v3 - v3 / (10 : Int32) * (10 : Int32))) v2 σ) fun (_ : Unit) (σ2 : Mem) =>
  some ((), σ2)
def f_Mo_putNumber_J40  (v1 : Int32) (v2 : Int32) (v3 : Int32) (σ : Mem) : Option (Unit × Mem) :=
  if v3 ≤ (9 : Int32) then (
  f_Mo_putNumber_J61 v1 v2 v3 σ)
  else (
  bn (f_Mo_put ((48 : Int32) + ((v3 / (10 : Int32)) - (v3 / (10 : Int32)) / (10 : Int32) * (10 : Int32))) v2 σ) fun (_ : Unit) (σ4 : Mem) =>
  f_Mo_putNumber_J61 v1 v2 v3 σ4)
def f_Mo_putNumber_J22  (v1 : Int32) (v2 : Int32) (v3 : Int32) (σ : Mem) : Option (Unit × Mem) :=
  if v3 ≤ (99 : Int32) then (
  f_Mo_putNumber_J40 v1 v2 v3 σ)
  else (
  bn (f_Mo_put ((48 : Int32) + (v3 / (100 : Int32))) v2 σ) fun (_ : Unit) (σ6 : Mem) =>
  f_Mo_putNumber_J40 v1 v2 v3 σ6)
def f_Mo_putNumber_J10  (v1 : Int32) (v2 : Int32) (u0 : Int32) (σ : Mem) : Option (Unit × Mem) :=
  if 0 ≤ v1 then (
  f_Mo_putNumber_J22 v1 v2 u0 σ)
  else (
  bn (f_Mo_put (45 : Int32) v2 σ) fun (_ : Unit) (σ8 : Mem) =>
  f_Mo_putNumber_J22 v1 v2 u0 σ8)
def f_Mo_putNumber  (v1 : Int32) (v2 : Int32) (σ : Mem) : Option (Unit × Mem) :=
  if 0 ≤ v1 then (
  f_Mo_putNumber_J10 v1 v2 v1 σ)
  else (
  f_Mo_putNumber_J10 v1 v2 (-v1) σ)
set_option maxHeartbeats 4000000 in
set_option maxRecDepth 100000 in
theorem c_Mo_putNumber (l : Launch) (g : Gw) (hg : wInj g) {v1 : Int32} {v2 : Int32} {σ σ0 : Mem} (h : f_Mo_putNumber v1 v2 σ = some ((), σ0)) : KV l yMo_putNumber cMo_putNumber 4 none 1 g [.ref (ad g 15), .int v1, .int v2] σ σ0 := by
  refine q_met g hg (own := "TermBenchModel") rfl rfl (Nat.le_of_ble_eq_true rfl) (fun p e s m args below meth c R Q cx hRk hr hQ H locs ls hP hS hl => ?_)
  have hx := cx.1
  have hb := cx.2.1
  have hown := cx.2.2.2.1
  have hts := cx.2.2.2.2.1
  have hl : lv_has ls 4 [(0, .ref (ad g 15)), (1, .int v1), (2, .int v2)] := hl
  have J61 : ∀ (v1 : Int32) (v2 : Int32) (v3 : Int32) (σ : Mem), f_Mo_putNumber_J61 v1 v2 v3 σ = some ((), σ0) → ∀ (H : Heap) (locs : List Loc) (ls : Array Slot), lv_has ls 4 [(0, .ref (ad g 15)), (1, .int v1), (2, .int v2), (3, .int v3)] → Wd g σ H → va_S (wA g) s.heap H locs → W p l e R s m args below meth c H locs 0 0 Q (F0 m 61 ls []) := by
    intro v1 v2 v3 σ h H locs ls hl hP hS
    unfold f_Mo_putNumber_J61 at h
    refine lv_aload_n hx hb dMo_putNumber_61 rfl (lv_at hl 0 rfl) ?_
    refine lv_bipush (v := 48) hx hb dMo_putNumber_62 (by decide) ?_
    refine lv_iload_n hx hb dMo_putNumber_64 rfl (lv_at hl 3 rfl) ?_
    refine lv_bipush (v := 10) hx hb dMo_putNumber_65 (by decide) ?_
    refine lv_irem hx hb dMo_putNumber_67 (by decide) ?_
    refine lv_iadd hx hb dMo_putNumber_68 ?_
    refine lv_iload_n hx hb dMo_putNumber_69 rfl (lv_at hl 2 rfl) ?_
    obtain ⟨rh1, σ2, h1, h⟩ := bn_some h
    refine q_cVv (rest := []) (As := [.int ((48 : Int32) + (v3 - v3 / (10 : Int32) * (10 : Int32))), .int v2]) cx hP hS hRk (c_Mo_put l g hg h1) Y_Mo_put V_Mo_put t_782 (by decide) (by decide) (e_15 g _ _) rfl rfl hl.1 rfl (Nat.le_of_ble_eq_true rfl) dMo_putNumber_70 (fun H locs hP hS => ?_)
    exact q_rv cx hr hP hS hQ h dMo_putNumber_73
  have J40 : ∀ (v1 : Int32) (v2 : Int32) (v3 : Int32) (σ : Mem), f_Mo_putNumber_J40 v1 v2 v3 σ = some ((), σ0) → ∀ (H : Heap) (locs : List Loc) (ls : Array Slot), lv_has ls 4 [(0, .ref (ad g 15)), (1, .int v1), (2, .int v2), (3, .int v3)] → Wd g σ H → va_S (wA g) s.heap H locs → W p l e R s m args below meth c H locs 0 0 Q (F0 m 40 ls []) := by
    intro v1 v2 v3 σ h H locs ls hl hP hS
    unfold f_Mo_putNumber_J40 at h
    refine lv_iload_n hx hb dMo_putNumber_40 rfl (lv_at hl 3 rfl) ?_
    refine lv_bipush (v := 9) hx hb dMo_putNumber_41 (by decide) ?_
    refine lv_icmp_le (tgt := 61) hx hb dMo_putNumber_43 (by decide) (fun hc => ?_) (fun hc => ?_)
    · replace h := if_t h hc
      exact J61 _ _ _ _ h _ _ _ (lv_sub hl [0, 1, 2, 3] rfl) hP hS
    · replace h := if_f h hc
      refine lv_aload_n hx hb dMo_putNumber_46 rfl (lv_at hl 0 rfl) ?_
      refine lv_bipush (v := 48) hx hb dMo_putNumber_47 (by decide) ?_
      refine lv_iload_n hx hb dMo_putNumber_49 rfl (lv_at hl 3 rfl) ?_
      refine lv_bipush (v := 10) hx hb dMo_putNumber_50 (by decide) ?_
      refine lv_idiv hx hb dMo_putNumber_52 (by decide) ?_
      refine lv_bipush (v := 10) hx hb dMo_putNumber_53 (by decide) ?_
      refine lv_irem hx hb dMo_putNumber_55 (by decide) ?_
      refine lv_iadd hx hb dMo_putNumber_56 ?_
      refine lv_iload_n hx hb dMo_putNumber_57 rfl (lv_at hl 2 rfl) ?_
      obtain ⟨rh3, σ4, h3, h⟩ := bn_some h
      refine q_cVv (rest := []) (As := [.int ((48 : Int32) + ((v3 / (10 : Int32)) - (v3 / (10 : Int32)) / (10 : Int32) * (10 : Int32))), .int v2]) cx hP hS hRk (c_Mo_put l g hg h3) Y_Mo_put V_Mo_put t_782 (by decide) (by decide) (e_15 g _ _) rfl rfl hl.1 rfl (Nat.le_of_ble_eq_true rfl) dMo_putNumber_58 (fun H locs hP hS => ?_)
      exact J61 _ _ _ _ h _ _ _ (lv_sub hl [0, 1, 2, 3] rfl) hP hS
  have J22 : ∀ (v1 : Int32) (v2 : Int32) (v3 : Int32) (σ : Mem), f_Mo_putNumber_J22 v1 v2 v3 σ = some ((), σ0) → ∀ (H : Heap) (locs : List Loc) (ls : Array Slot), lv_has ls 4 [(0, .ref (ad g 15)), (1, .int v1), (2, .int v2), (3, .int v3)] → Wd g σ H → va_S (wA g) s.heap H locs → W p l e R s m args below meth c H locs 0 0 Q (F0 m 22 ls []) := by
    intro v1 v2 v3 σ h H locs ls hl hP hS
    unfold f_Mo_putNumber_J22 at h
    refine lv_iload_n hx hb dMo_putNumber_22 rfl (lv_at hl 3 rfl) ?_
    refine lv_bipush (v := 99) hx hb dMo_putNumber_23 (by decide) ?_
    refine lv_icmp_le (tgt := 40) hx hb dMo_putNumber_25 (by decide) (fun hc => ?_) (fun hc => ?_)
    · replace h := if_t h hc
      exact J40 _ _ _ _ h _ _ _ (lv_sub hl [0, 1, 2, 3] rfl) hP hS
    · replace h := if_f h hc
      refine lv_aload_n hx hb dMo_putNumber_28 rfl (lv_at hl 0 rfl) ?_
      refine lv_bipush (v := 48) hx hb dMo_putNumber_29 (by decide) ?_
      refine lv_iload_n hx hb dMo_putNumber_31 rfl (lv_at hl 3 rfl) ?_
      refine lv_bipush (v := 100) hx hb dMo_putNumber_32 (by decide) ?_
      refine lv_idiv hx hb dMo_putNumber_34 (by decide) ?_
      refine lv_iadd hx hb dMo_putNumber_35 ?_
      refine lv_iload_n hx hb dMo_putNumber_36 rfl (lv_at hl 2 rfl) ?_
      obtain ⟨rh5, σ6, h5, h⟩ := bn_some h
      refine q_cVv (rest := []) (As := [.int ((48 : Int32) + (v3 / (100 : Int32))), .int v2]) cx hP hS hRk (c_Mo_put l g hg h5) Y_Mo_put V_Mo_put t_782 (by decide) (by decide) (e_15 g _ _) rfl rfl hl.1 rfl (Nat.le_of_ble_eq_true rfl) dMo_putNumber_37 (fun H locs hP hS => ?_)
      exact J40 _ _ _ _ h _ _ _ (lv_sub hl [0, 1, 2, 3] rfl) hP hS
  have J10 : ∀ (v1 : Int32) (v2 : Int32) (u0 : Int32) (σ : Mem), f_Mo_putNumber_J10 v1 v2 u0 σ = some ((), σ0) → ∀ (H : Heap) (locs : List Loc) (ls : Array Slot), lv_has ls 4 [(0, .ref (ad g 15)), (1, .int v1), (2, .int v2)] → Wd g σ H → va_S (wA g) s.heap H locs → W p l e R s m args below meth c H locs 0 0 Q (F0 m 10 ls [.int u0]) := by
    intro v1 v2 u0 σ h H locs ls hl hP hS
    unfold f_Mo_putNumber_J10 at h
    refine lv_istore_n (lv' := [(3, .int u0), (0, .ref (ad g 15)), (1, .int v1), (2, .int v2)]) hx hb dMo_putNumber_10 rfl hl (Nat.le_of_ble_eq_true rfl) rfl (fun ls hl => ?_)
    refine lv_iload_n hx hb dMo_putNumber_11 rfl (lv_at hl 2 rfl) ?_
    refine lv_if_ge (tgt := 22) hx hb dMo_putNumber_12 (by decide) (fun hc => ?_) (fun hc => ?_)
    · replace h := if_t h hc
      exact J22 _ _ _ _ h _ _ _ (lv_sub hl [1, 2, 3, 0] rfl) hP hS
    · replace h := if_f h hc
      refine lv_aload_n hx hb dMo_putNumber_15 rfl (lv_at hl 1 rfl) ?_
      refine lv_bipush (v := 45) hx hb dMo_putNumber_16 (by decide) ?_
      refine lv_iload_n hx hb dMo_putNumber_18 rfl (lv_at hl 3 rfl) ?_
      obtain ⟨rh7, σ8, h7, h⟩ := bn_some h
      refine q_cVv (rest := []) (As := [.int (45 : Int32), .int v2]) cx hP hS hRk (c_Mo_put l g hg h7) Y_Mo_put V_Mo_put t_782 (by decide) (by decide) (e_15 g _ _) rfl rfl hl.1 rfl (Nat.le_of_ble_eq_true rfl) dMo_putNumber_19 (fun H locs hP hS => ?_)
      exact J22 _ _ _ _ h _ _ _ (lv_sub hl [1, 2, 3, 0] rfl) hP hS
  unfold f_Mo_putNumber at h
  refine lv_iload_n hx hb dMo_putNumber_0 rfl (lv_at hl 1 rfl) ?_
  refine lv_if_ge (tgt := 9) hx hb dMo_putNumber_1 (by decide) (fun hc => ?_) (fun hc => ?_)
  · replace h := if_t h hc
    refine lv_iload_n hx hb dMo_putNumber_9 rfl (lv_at hl 1 rfl) ?_
    exact J10 _ _ _ _ h _ _ _ (lv_sub hl [0, 1, 2] rfl) hP hS
  · replace h := if_f h hc
    refine lv_iload_n hx hb dMo_putNumber_4 rfl (lv_at hl 1 rfl) ?_
    refine lv_ineg hx hb dMo_putNumber_5 ?_
    refine lv_goto (tgt := 10) hx hb dMo_putNumber_6 (by decide) ?_
    exact J10 _ _ _ _ h _ _ _ (lv_sub hl [0, 1, 2] rfl) hP hS
theorem dMo_putType_0 : decode cMo_putType 0 = .ok (.iconst 0, 1) := by decide +kernel
theorem dMo_putType_1 : decode cMo_putType 1 = .ok (.istore 4, 2) := by decide +kernel
theorem dMo_putType_3 : decode cMo_putType 3 = .ok (.lload_n 1, 1) := by decide +kernel
theorem dMo_putType_4 : decode cMo_putType 4 = .ok (.iconst 0, 1) := by decide +kernel
theorem dMo_putType_5 : decode cMo_putType 5 = .ok (.invokestatic 105, 3) := by decide +kernel
theorem dMo_putType_8 : decode cMo_putType 8 = .ok (.istore 5, 2) := by decide +kernel
theorem dMo_putType_10 : decode cMo_putType 10 = .ok (.iconst 0, 1) := by decide +kernel
theorem dMo_putType_11 : decode cMo_putType 11 = .ok (.istore 6, 2) := by decide +kernel
theorem dMo_putType_13 : decode cMo_putType 13 = .ok (.iload 6, 2) := by decide +kernel
theorem dMo_putType_15 : decode cMo_putType 15 = .ok (.iload 5, 2) := by decide +kernel
theorem dMo_putType_17 : decode cMo_putType 17 = .ok (.if_icmp .ge 145, 3) := by decide +kernel
theorem dMo_putType_20 : decode cMo_putType 20 = .ok (.lload_n 1, 1) := by decide +kernel
theorem dMo_putType_21 : decode cMo_putType 21 = .ok (.iload 6, 2) := by decide +kernel
theorem dMo_putType_23 : decode cMo_putType 23 = .ok (.invokestatic 101, 3) := by decide +kernel
theorem dMo_putType_26 : decode cMo_putType 26 = .ok (.istore 7, 2) := by decide +kernel
theorem dMo_putType_28 : decode cMo_putType 28 = .ok (.aload_n 0, 1) := by decide +kernel
theorem dMo_putType_29 : decode cMo_putType 29 = .ok (.iload 7, 2) := by decide +kernel
theorem dMo_putType_31 : decode cMo_putType 31 = .ok (.iconst 1, 1) := by decide +kernel
theorem dMo_putType_32 : decode cMo_putType 32 = .ok (.if_icmp .ne 8, 3) := by decide +kernel
theorem dMo_putType_35 : decode cMo_putType 35 = .ok (.bipush 42, 2) := by decide +kernel
theorem dMo_putType_37 : decode cMo_putType 37 = .ok (.goto 16, 3) := by decide +kernel
theorem dMo_putType_40 : decode cMo_putType 40 = .ok (.iload 7, 2) := by decide +kernel
theorem dMo_putType_42 : decode cMo_putType 42 = .ok (.iconst 2, 1) := by decide +kernel
theorem dMo_putType_43 : decode cMo_putType 43 = .ok (.if_icmp .ne 8, 3) := by decide +kernel
theorem dMo_putType_46 : decode cMo_putType 46 = .ok (.bipush 35, 2) := by decide +kernel
theorem dMo_putType_48 : decode cMo_putType 48 = .ok (.goto 5, 3) := by decide +kernel
theorem dMo_putType_51 : decode cMo_putType 51 = .ok (.bipush 60, 2) := by decide +kernel
theorem dMo_putType_53 : decode cMo_putType 53 = .ok (.iload_n 3, 1) := by decide +kernel
theorem dMo_putType_54 : decode cMo_putType 54 = .ok (.invokevirtual 187, 3) := by decide +kernel
theorem dMo_putType_57 : decode cMo_putType 57 = .ok (.iload 7, 2) := by decide +kernel
theorem dMo_putType_59 : decode cMo_putType 59 = .ok (.iconst 3, 1) := by decide +kernel
theorem dMo_putType_60 : decode cMo_putType 60 = .ok (.if_icmp .ne 17, 3) := by decide +kernel
theorem dMo_putType_63 : decode cMo_putType 63 = .ok (.aload_n 0, 1) := by decide +kernel
theorem dMo_putType_64 : decode cMo_putType 64 = .ok (.getfield 63, 3) := by decide +kernel
theorem dMo_putType_67 : decode cMo_putType 67 = .ok (.iload 4, 2) := by decide +kernel
theorem dMo_putType_69 : decode cMo_putType 69 = .ok (.iconst 2, 1) := by decide +kernel
theorem dMo_putType_70 : decode cMo_putType 70 = .ok (.iastore, 1) := by decide +kernel
theorem dMo_putType_71 : decode cMo_putType 71 = .ok (.iinc 4 1, 3) := by decide +kernel
theorem dMo_putType_74 : decode cMo_putType 74 = .ok (.goto 82, 3) := by decide +kernel
theorem dMo_putType_77 : decode cMo_putType 77 = .ok (.iload 4, 2) := by decide +kernel
theorem dMo_putType_79 : decode cMo_putType 79 = .ok (.ifCond .le 7, 3) := by decide +kernel
theorem dMo_putType_82 : decode cMo_putType 82 = .ok (.iconst 1, 1) := by decide +kernel
theorem dMo_putType_83 : decode cMo_putType 83 = .ok (.goto 4, 3) := by decide +kernel
theorem dMo_putType_86 : decode cMo_putType 86 = .ok (.iconst 0, 1) := by decide +kernel
theorem dMo_putType_87 : decode cMo_putType 87 = .ok (.istore 8, 2) := by decide +kernel
theorem dMo_putType_89 : decode cMo_putType 89 = .ok (.iload 8, 2) := by decide +kernel
theorem dMo_putType_91 : decode cMo_putType 91 = .ok (.ifCond .eq 65, 3) := by decide +kernel
theorem dMo_putType_94 : decode cMo_putType 94 = .ok (.aload_n 0, 1) := by decide +kernel
theorem dMo_putType_95 : decode cMo_putType 95 = .ok (.getfield 63, 3) := by decide +kernel
theorem dMo_putType_98 : decode cMo_putType 98 = .ok (.iload 4, 2) := by decide +kernel
theorem dMo_putType_100 : decode cMo_putType 100 = .ok (.iconst 1, 1) := by decide +kernel
theorem dMo_putType_101 : decode cMo_putType 101 = .ok (.isub, 1) := by decide +kernel
theorem dMo_putType_102 : decode cMo_putType 102 = .ok (.dup2, 1) := by decide +kernel
theorem dMo_putType_103 : decode cMo_putType 103 = .ok (.iaload, 1) := by decide +kernel
theorem dMo_putType_104 : decode cMo_putType 104 = .ok (.iconst 1, 1) := by decide +kernel
theorem dMo_putType_105 : decode cMo_putType 105 = .ok (.isub, 1) := by decide +kernel
theorem dMo_putType_106 : decode cMo_putType 106 = .ok (.iastore, 1) := by decide +kernel
theorem dMo_putType_107 : decode cMo_putType 107 = .ok (.aload_n 0, 1) := by decide +kernel
theorem dMo_putType_108 : decode cMo_putType 108 = .ok (.getfield 63, 3) := by decide +kernel
theorem dMo_putType_111 : decode cMo_putType 111 = .ok (.iload 4, 2) := by decide +kernel
theorem dMo_putType_113 : decode cMo_putType 113 = .ok (.iconst 1, 1) := by decide +kernel
theorem dMo_putType_114 : decode cMo_putType 114 = .ok (.isub, 1) := by decide +kernel
theorem dMo_putType_115 : decode cMo_putType 115 = .ok (.iaload, 1) := by decide +kernel
theorem dMo_putType_116 : decode cMo_putType 116 = .ok (.ifCond .ne 7, 3) := by decide +kernel
theorem dMo_putType_119 : decode cMo_putType 119 = .ok (.iconst 1, 1) := by decide +kernel
theorem dMo_putType_120 : decode cMo_putType 120 = .ok (.goto 4, 3) := by decide +kernel
theorem dMo_putType_123 : decode cMo_putType 123 = .ok (.iconst 0, 1) := by decide +kernel
theorem dMo_putType_124 : decode cMo_putType 124 = .ok (.istore 8, 2) := by decide +kernel
theorem dMo_putType_126 : decode cMo_putType 126 = .ok (.iload 8, 2) := by decide +kernel
theorem dMo_putType_128 : decode cMo_putType 128 = .ok (.ifCond .eq (-39), 3) := by decide +kernel
theorem dMo_putType_131 : decode cMo_putType 131 = .ok (.aload_n 0, 1) := by decide +kernel
theorem dMo_putType_132 : decode cMo_putType 132 = .ok (.bipush 62, 2) := by decide +kernel
theorem dMo_putType_134 : decode cMo_putType 134 = .ok (.iload_n 3, 1) := by decide +kernel
theorem dMo_putType_135 : decode cMo_putType 135 = .ok (.invokevirtual 187, 3) := by decide +kernel
theorem dMo_putType_138 : decode cMo_putType 138 = .ok (.iinc 4 (-1), 3) := by decide +kernel
theorem dMo_putType_141 : decode cMo_putType 141 = .ok (.iload 4, 2) := by decide +kernel
theorem dMo_putType_143 : decode cMo_putType 143 = .ok (.ifCond .le 7, 3) := by decide +kernel
theorem dMo_putType_146 : decode cMo_putType 146 = .ok (.iconst 1, 1) := by decide +kernel
theorem dMo_putType_147 : decode cMo_putType 147 = .ok (.goto 4, 3) := by decide +kernel
theorem dMo_putType_150 : decode cMo_putType 150 = .ok (.iconst 0, 1) := by decide +kernel
theorem dMo_putType_151 : decode cMo_putType 151 = .ok (.istore 8, 2) := by decide +kernel
theorem dMo_putType_153 : decode cMo_putType 153 = .ok (.goto (-64), 3) := by decide +kernel
theorem dMo_putType_156 : decode cMo_putType 156 = .ok (.iinc 6 1, 3) := by decide +kernel
theorem dMo_putType_159 : decode cMo_putType 159 = .ok (.goto (-146), 3) := by decide +kernel
theorem dMo_putType_162 : decode cMo_putType 162 = .ok (.return_, 1) := by decide +kernel
def f_Mo_putType_J156  (v1 : Int64) (v3 : Int32) (v4 : Int32) (v5 : Int32) (v6 : Int32) (v7 : Int32) (σ : Mem) : Option ((Int32 × Int32 × Mem) ⊕ (Unit × Mem)) :=
  lt_ (v6 + 1) fun (x1 : Int32) =>
  some (.inl (v4, x1, σ))
def f_Mo_putType_J151  (v1 : Int64) (v3 : Int32) (v4 : Int32) (v5 : Int32) (v6 : Int32) (v7 : Int32) (v8 : Int32) (u0 : Int32) (σ : Mem) : Option ((Int32 × Int32 × Mem) ⊕ ((Int32 × Int32 × Mem) ⊕ (Unit × Mem))) :=
  some (.inl (v4, u0, σ))
def f_Mo_putType_J124  (v1 : Int64) (v3 : Int32) (v4 : Int32) (v5 : Int32) (v6 : Int32) (v7 : Int32) (v8 : Int32) (u0 : Int32) (σ : Mem) : Option ((Int32 × Int32 × Mem) ⊕ ((Int32 × Int32 × Mem) ⊕ (Unit × Mem))) :=
  if u0 = 0 then (
  some (.inl (v4, u0, σ)))
  else (
  bn (f_Mo_put (62 : Int32) v3 σ) fun (_ : Unit) (σ3 : Mem) =>
  lt_ (v4 + (-1)) fun (x4 : Int32) =>
  if x4 ≤ 0 then (
  f_Mo_putType_J151 v1 v3 x4 v5 v6 v7 u0 (0 : Int32) σ3)
  else (
  f_Mo_putType_J151 v1 v3 x4 v5 v6 v7 u0 (1 : Int32) σ3))
def f_Mo_putType_L89  (v1 : Int64) (v3 : Int32) (v5 : Int32) (v6 : Int32) (v7 : Int32) (v4 : Int32) (v8 : Int32) (σ : Mem) : Option ((Int32 × Int32 × Mem) ⊕ ((Int32 × Int32 × Mem) ⊕ (Unit × Mem))) :=
  if v8 = 0 then (
  inrM (f_Mo_putType_J156 v1 v3 v4 v5 v6 v7 σ))
  else (
  gd (inb (v4 - (1 : Int32)) 32) (
  gd (inb (v4 - (1 : Int32)) 32) (lt_ (sI σ 32 (v4 - (1 : Int32)).toNatClampNeg ((σ.1 32 (v4 - (1 : Int32)).toNatClampNeg) - (1 : Int32))) fun (σ8 : Mem) =>
  gd (inb (v4 - (1 : Int32)) 32) (
  if (σ8.1 32 (v4 - (1 : Int32)).toNatClampNeg) = 0 then (
  f_Mo_putType_J124 v1 v3 v4 v5 v6 v7 v8 (1 : Int32) σ8)
  else (
  f_Mo_putType_J124 v1 v3 v4 v5 v6 v7 v8 (0 : Int32) σ8)))))
def f_Mo_putType_J87  (v1 : Int64) (v3 : Int32) (v4 : Int32) (v5 : Int32) (v6 : Int32) (v7 : Int32) (u0 : Int32) (σ : Mem) : Option ((Int32 × Int32 × Mem) ⊕ (Unit × Mem)) :=
  loopF (fun (q : (Int32 × Int32 × Mem)) => f_Mo_putType_L89 v1 v3 v5 v6 v7 q.1 q.2.1 q.2.2) FU (v4, u0, σ)
def f_Mo_putType_J53  (v1 : Int64) (v3 : Int32) (v4 : Int32) (v5 : Int32) (v6 : Int32) (v7 : Int32) (u1 : Int32) (σ : Mem) : Option ((Int32 × Int32 × Mem) ⊕ (Unit × Mem)) :=
  bn (f_Mo_put u1 v3 σ) fun (_ : Unit) (σ11 : Mem) =>
  if v7 = (3 : Int32) then (
  gd (inb v4 32) (lt_ (sI σ11 32 v4.toNatClampNeg (2 : Int32)) fun (σ13 : Mem) =>
  lt_ (v4 + 1) fun (x14 : Int32) =>
  f_Mo_putType_J156 v1 v3 x14 v5 v6 v7 σ13))
  else (
  if v4 ≤ 0 then (
  f_Mo_putType_J87 v1 v3 v4 v5 v6 v7 (0 : Int32) σ11)
  else (
  f_Mo_putType_J87 v1 v3 v4 v5 v6 v7 (1 : Int32) σ11))
def f_Mo_putType_L13  (v1 : Int64) (v3 : Int32) (v5 : Int32) (v4 : Int32) (v6 : Int32) (σ : Mem) : Option ((Int32 × Int32 × Mem) ⊕ (Unit × Mem)) :=
  if v5 ≤ v6 then (
  inrM (some ((), σ)))
  else (
  bn (f_Mo_symbol v1 v6 σ) fun (r18 : Int32) (σ17 : Mem) =>
  if r18 = (1 : Int32) then (
  f_Mo_putType_J53 v1 v3 v4 v5 v6 r18 (42 : Int32) σ17)
  else (
  if r18 = (2 : Int32) then (
  f_Mo_putType_J53 v1 v3 v4 v5 v6 r18 (35 : Int32) σ17)
  else (
  f_Mo_putType_J53 v1 v3 v4 v5 v6 r18 (60 : Int32) σ17)))
def f_Mo_putType  (v1 : Int64) (v3 : Int32) (σ : Mem) : Option (Unit × Mem) :=
  lt_ (0 : Int32) fun (x19 : Int32) =>
  bn (f_Mo_behind v1 (0 : Int32) σ) fun (r22 : Int32) (σ21 : Mem) =>
  lt_ (0 : Int32) fun (x23 : Int32) =>
  loopF (fun (q : (Int32 × Int32 × Mem)) => f_Mo_putType_L13 v1 v3 r22 q.1 q.2.1 q.2.2) FU (x19, x23, σ21)
set_option maxHeartbeats 4000000 in
set_option maxRecDepth 100000 in
theorem c_Mo_putType (l : Launch) (g : Gw) (hg : wInj g) {v1 : Int64} {v3 : Int32} {σ σ0 : Mem} (h : f_Mo_putType v1 v3 σ = some ((), σ0)) : KV l yMo_putType cMo_putType 9 none 2 g [.ref (ad g 15), .long v1, .int v3] σ σ0 := by
  refine q_met g hg (own := "TermBenchModel") rfl rfl (Nat.le_of_ble_eq_true rfl) (fun p e s m args below meth c R Q cx hRk hr hQ H locs ls hP hS hl => ?_)
  have hx := cx.1
  have hb := cx.2.1
  have hown := cx.2.2.2.1
  have hts := cx.2.2.2.2.1
  have hl : lv_has ls 9 [(0, .ref (ad g 15)), (1, .long v1), (3, .int v3)] := hl
  unfold f_Mo_putType at h
  refine lv_iconst (v := 0) hx hb dMo_putType_0 (by decide) ?_
  obtain ⟨x19, ex19, h⟩ := lt_some h
  refine q_nmi ex19 ?_
  refine lv_istore (lv' := [(4, .int x19), (0, .ref (ad g 15)), (1, .long v1), (3, .int v3)]) hx hb dMo_putType_1 hl (Nat.le_of_ble_eq_true rfl) rfl (fun ls hl => ?_)
  refine lv_lload_n hx hb dMo_putType_3 rfl (lv_at hl 2 rfl) ?_
  refine lv_iconst (v := 0) hx hb dMo_putType_4 (by decide) ?_
  obtain ⟨r22, σ21, h20, h⟩ := bn_some h
  refine q_cSi (rest := []) (As := [.long v1, .int (0 : Int32)]) cx hP hS hRk (c_Mo_behind l g hg h20) Y_Mo_behind S_Mo_behind t_731 (by decide) rfl hl.1 rfl (Nat.le_of_ble_eq_true rfl) dMo_putType_5 (fun H locs hP hS => ?_)
  refine lv_istore (lv' := [(5, .int r22), (4, .int x19), (0, .ref (ad g 15)), (1, .long v1), (3, .int v3)]) hx hb dMo_putType_8 hl (Nat.le_of_ble_eq_true rfl) rfl (fun ls hl => ?_)
  refine lv_iconst (v := 0) hx hb dMo_putType_10 (by decide) ?_
  obtain ⟨x23, ex23, h⟩ := lt_some h
  refine q_nmi ex23 ?_
  refine lv_istore (lv' := [(6, .int x23), (5, .int r22), (4, .int x19), (0, .ref (ad g 15)), (1, .long v1), (3, .int v3)]) hx hb dMo_putType_11 hl (Nat.le_of_ble_eq_true rfl) rfl (fun ls hl => ?_)
  have L13 : ∀ (n : Nat) (v1 : Int64) (v3 : Int32) (v4 : Int32) (v5 : Int32) (v6 : Int32) (σ : Mem), loopF (fun (q : (Int32 × Int32 × Mem)) => f_Mo_putType_L13 v1 v3 v5 q.1 q.2.1 q.2.2) n (v4, v6, σ) = some ((), σ0) → ∀ (H : Heap) (locs : List Loc) (ls : Array Slot), lv_has ls 9 [(0, .ref (ad g 15)), (1, .long v1), (3, .int v3), (4, .int v4), (5, .int v5), (6, .int v6)] → Wd g σ H → va_S (wA g) s.heap H locs → W p l e R s m args below meth c H locs 0 0 Q (F0 m 13 ls []) := by
    intro n
    induction n with
    | zero => intro v1 v3 v4 v5 v6 σ h; exact (loopF_zero h).elim
    | succ n ih13 =>
      intro v1 v3 v4 v5 v6 σ h H locs ls hl hP hS
      obtain ⟨o13, h, K13, E13⟩ := loopF_succ h
      have h : f_Mo_putType_L13 v1 v3 v5 v4 v6 σ = some o13 := h
      have J156 : ∀ (v4 : Int32) (v6 : Int32) (v7 : Int32) (σ : Mem), f_Mo_putType_J156 v1 v3 v4 v5 v6 v7 σ = some o13 → ∀ (H : Heap) (locs : List Loc) (ls : Array Slot), lv_has ls 9 [(0, .ref (ad g 15)), (1, .long v1), (3, .int v3), (4, .int v4), (5, .int v5), (6, .int v6), (7, .int v7)] → Wd g σ H → va_S (wA g) s.heap H locs → W p l e R s m args below meth c H locs 0 0 Q (F0 m 156 ls []) := by
        intro v4 v6 v7 σ h H locs ls hl hP hS
        unfold f_Mo_putType_J156 at h
        obtain ⟨x1, ex1, h⟩ := lt_some h
        refine lv_iinc (lv' := [(6, .int x1), (0, .ref (ad g 15)), (1, .long v1), (3, .int v3), (4, .int v4), (5, .int v5), (7, .int v7)]) hx hb dMo_putType_156 hl (k := 5) rfl (q_inc ex1 (by decide)) (Nat.le_of_ble_eq_true rfl) rfl (fun ls hl => ?_)
        refine lv_goto (tgt := 13) hx hb dMo_putType_159 (by decide) ?_
        exact ih13 _ _ _ _ _ _ (K13 _ (Option.some.inj h).symm) _ _ _ (lv_sub hl [1, 2, 3, 4, 5, 0] rfl) hP hS
      have J87 : ∀ (v4 : Int32) (v6 : Int32) (v7 : Int32) (u0 : Int32) (σ : Mem), f_Mo_putType_J87 v1 v3 v4 v5 v6 v7 u0 σ = some o13 → ∀ (H : Heap) (locs : List Loc) (ls : Array Slot), lv_has ls 9 [(0, .ref (ad g 15)), (1, .long v1), (3, .int v3), (4, .int v4), (5, .int v5), (6, .int v6), (7, .int v7)] → Wd g σ H → va_S (wA g) s.heap H locs → W p l e R s m args below meth c H locs 0 0 Q (F0 m 87 ls [.int u0]) := by
        intro v4 v6 v7 u0 σ h H locs ls hl hP hS
        unfold f_Mo_putType_J87 at h
        refine lv_istore (lv' := [(8, .int u0), (0, .ref (ad g 15)), (1, .long v1), (3, .int v3), (4, .int v4), (5, .int v5), (6, .int v6), (7, .int v7)]) hx hb dMo_putType_87 hl (Nat.le_of_ble_eq_true rfl) rfl (fun ls hl => ?_)
        have L89 : ∀ (n : Nat) (v4 : Int32) (v6 : Int32) (v7 : Int32) (v8 : Int32) (σ : Mem), loopF (fun (q : (Int32 × Int32 × Mem)) => f_Mo_putType_L89 v1 v3 v5 v6 v7 q.1 q.2.1 q.2.2) n (v4, v8, σ) = some o13 → ∀ (H : Heap) (locs : List Loc) (ls : Array Slot), lv_has ls 9 [(0, .ref (ad g 15)), (1, .long v1), (3, .int v3), (4, .int v4), (5, .int v5), (6, .int v6), (7, .int v7), (8, .int v8)] → Wd g σ H → va_S (wA g) s.heap H locs → W p l e R s m args below meth c H locs 0 0 Q (F0 m 89 ls []) := by
          intro n
          induction n with
          | zero => intro v4 v6 v7 v8 σ h; exact (loopF_zero h).elim
          | succ n ih89 =>
            intro v4 v6 v7 v8 σ h H locs ls hl hP hS
            obtain ⟨o89, h, K89, E89⟩ := loopF_succ h
            have h : f_Mo_putType_L89 v1 v3 v5 v6 v7 v4 v8 σ = some o89 := h
            have J151 : ∀ (v4 : Int32) (v8 : Int32) (u0 : Int32) (σ : Mem), f_Mo_putType_J151 v1 v3 v4 v5 v6 v7 v8 u0 σ = some o89 → ∀ (H : Heap) (locs : List Loc) (ls : Array Slot), lv_has ls 9 [(0, .ref (ad g 15)), (1, .long v1), (3, .int v3), (4, .int v4), (5, .int v5), (6, .int v6), (7, .int v7), (8, .int v8)] → Wd g σ H → va_S (wA g) s.heap H locs → W p l e R s m args below meth c H locs 0 0 Q (F0 m 151 ls [.int u0]) := by
              intro v4 v8 u0 σ h H locs ls hl hP hS
              unfold f_Mo_putType_J151 at h
              refine lv_istore (lv' := [(8, .int u0), (0, .ref (ad g 15)), (1, .long v1), (3, .int v3), (4, .int v4), (5, .int v5), (6, .int v6), (7, .int v7)]) hx hb dMo_putType_151 hl (Nat.le_of_ble_eq_true rfl) rfl (fun ls hl => ?_)
              refine lv_goto (tgt := 89) hx hb dMo_putType_153 (by decide) ?_
              exact ih89 _ _ _ _ _ (K89 _ (Option.some.inj h).symm) _ _ _ (lv_sub hl [1, 2, 3, 4, 5, 6, 7, 0] rfl) hP hS
            have J124 : ∀ (v4 : Int32) (v8 : Int32) (u0 : Int32) (σ : Mem), f_Mo_putType_J124 v1 v3 v4 v5 v6 v7 v8 u0 σ = some o89 → ∀ (H : Heap) (locs : List Loc) (ls : Array Slot), lv_has ls 9 [(0, .ref (ad g 15)), (1, .long v1), (3, .int v3), (4, .int v4), (5, .int v5), (6, .int v6), (7, .int v7), (8, .int v8)] → Wd g σ H → va_S (wA g) s.heap H locs → W p l e R s m args below meth c H locs 0 0 Q (F0 m 124 ls [.int u0]) := by
              intro v4 v8 u0 σ h H locs ls hl hP hS
              unfold f_Mo_putType_J124 at h
              refine lv_istore (lv' := [(8, .int u0), (0, .ref (ad g 15)), (1, .long v1), (3, .int v3), (4, .int v4), (5, .int v5), (6, .int v6), (7, .int v7)]) hx hb dMo_putType_124 hl (Nat.le_of_ble_eq_true rfl) rfl (fun ls hl => ?_)
              refine lv_iload hx hb dMo_putType_126 (lv_at hl 0 rfl) ?_
              refine lv_if_eq (tgt := 89) hx hb dMo_putType_128 (by decide) (fun hc => ?_) (fun hc => ?_)
              · replace h := if_t h hc
                exact ih89 _ _ _ _ _ (K89 _ (Option.some.inj h).symm) _ _ _ (lv_sub hl [1, 2, 3, 4, 5, 6, 7, 0] rfl) hP hS
              · replace h := if_f h hc
                refine lv_aload_n hx hb dMo_putType_131 rfl (lv_at hl 1 rfl) ?_
                refine lv_bipush (v := 62) hx hb dMo_putType_132 (by decide) ?_
                refine lv_iload_n hx hb dMo_putType_134 rfl (lv_at hl 3 rfl) ?_
                obtain ⟨rh2, σ3, h2, h⟩ := bn_some h
                refine q_cVv (rest := []) (As := [.int (62 : Int32), .int v3]) cx hP hS hRk (c_Mo_put l g hg h2) Y_Mo_put V_Mo_put t_782 (by decide) (by decide) (e_15 g _ _) rfl rfl hl.1 rfl (Nat.le_of_ble_eq_true rfl) dMo_putType_135 (fun H locs hP hS => ?_)
                obtain ⟨x4, ex4, h⟩ := lt_some h
                refine lv_iinc (lv' := [(4, .int x4), (8, .int u0), (0, .ref (ad g 15)), (1, .long v1), (3, .int v3), (5, .int v5), (6, .int v6), (7, .int v7)]) hx hb dMo_putType_138 hl (k := 4) rfl (q_inc ex4 (by decide)) (Nat.le_of_ble_eq_true rfl) rfl (fun ls hl => ?_)
                refine lv_iload hx hb dMo_putType_141 (lv_at hl 0 rfl) ?_
                refine lv_if_le (tgt := 150) hx hb dMo_putType_143 (by decide) (fun hc => ?_) (fun hc => ?_)
                · replace h := if_t h hc
                  refine lv_iconst (v := 0) hx hb dMo_putType_150 (by decide) ?_
                  exact J151 _ _ _ _ h _ _ _ (lv_sub hl [2, 3, 4, 0, 5, 6, 7, 1] rfl) hP hS
                · replace h := if_f h hc
                  refine lv_iconst (v := 1) hx hb dMo_putType_146 (by decide) ?_
                  refine lv_goto (tgt := 151) hx hb dMo_putType_147 (by decide) ?_
                  exact J151 _ _ _ _ h _ _ _ (lv_sub hl [2, 3, 4, 0, 5, 6, 7, 1] rfl) hP hS
            unfold f_Mo_putType_L89 at h
            refine lv_iload hx hb dMo_putType_89 (lv_at hl 7 rfl) ?_
            refine lv_if_eq (tgt := 156) hx hb dMo_putType_91 (by decide) (fun hc => ?_) (fun hc => ?_)
            · replace h := if_t h hc
              obtain ⟨z5, h, ez5⟩ := inrM_some h
              rw [E89 z5 ez5] at h
              exact J156 _ _ _ _ h _ _ _ (lv_sub hl [0, 1, 2, 3, 4, 5, 6] rfl) hP hS
            · replace h := if_f h hc
              refine lv_aload_n hx hb dMo_putType_94 rfl (lv_at hl 0 rfl) ?_
              refine g_Mo_left cx hP  t_553 dMo_putType_95 ?_
              refine lv_iload hx hb dMo_putType_98 (lv_at hl 3 rfl) ?_
              refine lv_iconst (v := 1) hx hb dMo_putType_100 (by decide) ?_
              refine lv_isub hx hb dMo_putType_101 ?_
              refine lv_dup2_11 hx hb dMo_putType_102 rfl rfl ?_
              obtain ⟨b6, h⟩ := gd_some h
              refine q_iald cx hP (by decide) (e_32 g) b6 dMo_putType_103 ?_
              refine lv_iconst (v := 1) hx hb dMo_putType_104 (by decide) ?_
              refine lv_isub hx hb dMo_putType_105 ?_
              obtain ⟨b7, h⟩ := gd_some h
              obtain ⟨σ8, eσ8, h⟩ := lt_some h
              refine q_iast cx hP hS (by decide) (e_32 g) b7 dMo_putType_106 eσ8 (fun H locs hP hS => ?_)
              refine lv_aload_n hx hb dMo_putType_107 rfl (lv_at hl 0 rfl) ?_
              refine g_Mo_left cx hP  t_553 dMo_putType_108 ?_
              refine lv_iload hx hb dMo_putType_111 (lv_at hl 3 rfl) ?_
              refine lv_iconst (v := 1) hx hb dMo_putType_113 (by decide) ?_
              refine lv_isub hx hb dMo_putType_114 ?_
              obtain ⟨b9, h⟩ := gd_some h
              refine q_iald cx hP (by decide) (e_32 g) b9 dMo_putType_115 ?_
              refine lv_if_ne (tgt := 123) hx hb dMo_putType_116 (by decide) (fun hc => ?_) (fun hc => ?_)
              · replace h := if_f h hc
                refine lv_iconst (v := 0) hx hb dMo_putType_123 (by decide) ?_
                exact J124 _ _ _ _ h _ _ _ (lv_sub hl [0, 1, 2, 3, 4, 5, 6, 7] rfl) hP hS
              · replace h := if_t h hc
                refine lv_iconst (v := 1) hx hb dMo_putType_119 (by decide) ?_
                refine lv_goto (tgt := 124) hx hb dMo_putType_120 (by decide) ?_
                exact J124 _ _ _ _ h _ _ _ (lv_sub hl [0, 1, 2, 3, 4, 5, 6, 7] rfl) hP hS
        exact L89 _ _ _ _ _ _ h _ _ _ (lv_sub hl [1, 2, 3, 4, 5, 6, 7, 0] rfl) hP hS
      have J53 : ∀ (v4 : Int32) (v6 : Int32) (v7 : Int32) (u1 : Int32) (σ : Mem), f_Mo_putType_J53 v1 v3 v4 v5 v6 v7 u1 σ = some o13 → ∀ (H : Heap) (locs : List Loc) (ls : Array Slot), lv_has ls 9 [(0, .ref (ad g 15)), (1, .long v1), (3, .int v3), (4, .int v4), (5, .int v5), (6, .int v6), (7, .int v7)] → Wd g σ H → va_S (wA g) s.heap H locs → W p l e R s m args below meth c H locs 0 0 Q (F0 m 53 ls [.int u1, .ref (ad g 15)]) := by
        intro v4 v6 v7 u1 σ h H locs ls hl hP hS
        unfold f_Mo_putType_J53 at h
        refine lv_iload_n hx hb dMo_putType_53 rfl (lv_at hl 2 rfl) ?_
        obtain ⟨rh10, σ11, h10, h⟩ := bn_some h
        refine q_cVv (rest := []) (As := [.int u1, .int v3]) cx hP hS hRk (c_Mo_put l g hg h10) Y_Mo_put V_Mo_put t_782 (by decide) (by decide) (e_15 g _ _) rfl rfl hl.1 rfl (Nat.le_of_ble_eq_true rfl) dMo_putType_54 (fun H locs hP hS => ?_)
        refine lv_iload hx hb dMo_putType_57 (lv_at hl 6 rfl) ?_
        refine lv_iconst (v := 3) hx hb dMo_putType_59 (by decide) ?_
        refine lv_icmp_ne (tgt := 77) hx hb dMo_putType_60 (by decide) (fun hc => ?_) (fun hc => ?_)
        · replace h := if_f h hc
          refine lv_iload hx hb dMo_putType_77 (lv_at hl 3 rfl) ?_
          refine lv_if_le (tgt := 86) hx hb dMo_putType_79 (by decide) (fun hc => ?_) (fun hc => ?_)
          · replace h := if_t h hc
            refine lv_iconst (v := 0) hx hb dMo_putType_86 (by decide) ?_
            exact J87 _ _ _ _ _ h _ _ _ (lv_sub hl [0, 1, 2, 3, 4, 5, 6] rfl) hP hS
          · replace h := if_f h hc
            refine lv_iconst (v := 1) hx hb dMo_putType_82 (by decide) ?_
            refine lv_goto (tgt := 87) hx hb dMo_putType_83 (by decide) ?_
            exact J87 _ _ _ _ _ h _ _ _ (lv_sub hl [0, 1, 2, 3, 4, 5, 6] rfl) hP hS
        · replace h := if_t h hc
          refine lv_aload_n hx hb dMo_putType_63 rfl (lv_at hl 0 rfl) ?_
          refine g_Mo_left cx hP  t_553 dMo_putType_64 ?_
          refine lv_iload hx hb dMo_putType_67 (lv_at hl 3 rfl) ?_
          refine lv_iconst (v := 2) hx hb dMo_putType_69 (by decide) ?_
          obtain ⟨b12, h⟩ := gd_some h
          obtain ⟨σ13, eσ13, h⟩ := lt_some h
          refine q_iast cx hP hS (by decide) (e_32 g) b12 dMo_putType_70 eσ13 (fun H locs hP hS => ?_)
          obtain ⟨x14, ex14, h⟩ := lt_some h
          refine lv_iinc (lv' := [(4, .int x14), (0, .ref (ad g 15)), (1, .long v1), (3, .int v3), (5, .int v5), (6, .int v6), (7, .int v7)]) hx hb dMo_putType_71 hl (k := 3) rfl (q_inc ex14 (by decide)) (Nat.le_of_ble_eq_true rfl) rfl (fun ls hl => ?_)
          refine lv_goto (tgt := 156) hx hb dMo_putType_74 (by decide) ?_
          exact J156 _ _ _ _ h _ _ _ (lv_sub hl [1, 2, 3, 0, 4, 5, 6] rfl) hP hS
      unfold f_Mo_putType_L13 at h
      refine lv_iload hx hb dMo_putType_13 (lv_at hl 5 rfl) ?_
      refine lv_iload hx hb dMo_putType_15 (lv_at hl 4 rfl) ?_
      refine lv_icmp_ge (tgt := 162) hx hb dMo_putType_17 (by decide) (fun hc => ?_) (fun hc => ?_)
      · replace h := if_t h hc
        obtain ⟨z15, h, ez15⟩ := inrM_some h
        rw [E13 z15 ez15] at h
        exact q_rv cx hr hP hS hQ h dMo_putType_162
      · replace h := if_f h hc
        refine lv_lload_n hx hb dMo_putType_20 rfl (lv_at hl 1 rfl) ?_
        refine lv_iload hx hb dMo_putType_21 (lv_at hl 5 rfl) ?_
        obtain ⟨r18, σ17, h16, h⟩ := bn_some h
        refine q_cSi (rest := []) (As := [.long v1, .int v6]) cx hP hS hRk (c_Mo_symbol l g hg h16) Y_Mo_symbol S_Mo_symbol t_734 (by decide) rfl hl.1 rfl (Nat.le_of_ble_eq_true rfl) dMo_putType_23 (fun H locs hP hS => ?_)
        refine lv_istore (lv' := [(7, .int r18), (0, .ref (ad g 15)), (1, .long v1), (3, .int v3), (4, .int v4), (5, .int v5), (6, .int v6)]) hx hb dMo_putType_26 hl (Nat.le_of_ble_eq_true rfl) rfl (fun ls hl => ?_)
        refine lv_aload_n hx hb dMo_putType_28 rfl (lv_at hl 1 rfl) ?_
        refine lv_iload hx hb dMo_putType_29 (lv_at hl 0 rfl) ?_
        refine lv_iconst (v := 1) hx hb dMo_putType_31 (by decide) ?_
        refine lv_icmp_ne (tgt := 40) hx hb dMo_putType_32 (by decide) (fun hc => ?_) (fun hc => ?_)
        · replace h := if_f h hc
          refine lv_iload hx hb dMo_putType_40 (lv_at hl 0 rfl) ?_
          refine lv_iconst (v := 2) hx hb dMo_putType_42 (by decide) ?_
          refine lv_icmp_ne (tgt := 51) hx hb dMo_putType_43 (by decide) (fun hc => ?_) (fun hc => ?_)
          · replace h := if_f h hc
            refine lv_bipush (v := 60) hx hb dMo_putType_51 (by decide) ?_
            exact J53 _ _ _ _ _ h _ _ _ (lv_sub hl [1, 2, 3, 4, 5, 6, 0] rfl) hP hS
          · replace h := if_t h hc
            refine lv_bipush (v := 35) hx hb dMo_putType_46 (by decide) ?_
            refine lv_goto (tgt := 53) hx hb dMo_putType_48 (by decide) ?_
            exact J53 _ _ _ _ _ h _ _ _ (lv_sub hl [1, 2, 3, 4, 5, 6, 0] rfl) hP hS
        · replace h := if_t h hc
          refine lv_bipush (v := 42) hx hb dMo_putType_35 (by decide) ?_
          refine lv_goto (tgt := 53) hx hb dMo_putType_37 (by decide) ?_
          exact J53 _ _ _ _ _ h _ _ _ (lv_sub hl [1, 2, 3, 4, 5, 6, 0] rfl) hP hS
  exact L13 _ _ _ _ _ _ _ h _ _ _ (lv_sub hl [3, 4, 5, 2, 1, 0] rfl) hP hS
theorem dMo_opens_0 : decode cMo_opens 0 = .ok (.aload_n 0, 1) := by decide +kernel
theorem dMo_opens_1 : decode cMo_opens 1 = .ok (.getfield 54, 3) := by decide +kernel
theorem dMo_opens_4 : decode cMo_opens 4 = .ok (.iload_n 1, 1) := by decide +kernel
theorem dMo_opens_5 : decode cMo_opens 5 = .ok (.aload_n 0, 1) := by decide +kernel
theorem dMo_opens_6 : decode cMo_opens 6 = .ok (.getfield 184, 3) := by decide +kernel
theorem dMo_opens_9 : decode cMo_opens 9 = .ok (.iastore, 1) := by decide +kernel
theorem dMo_opens_10 : decode cMo_opens 10 = .ok (.aload_n 0, 1) := by decide +kernel
theorem dMo_opens_11 : decode cMo_opens 11 = .ok (.getfield 13, 3) := by decide +kernel
theorem dMo_opens_14 : decode cMo_opens 14 = .ok (.iload_n 1, 1) := by decide +kernel
theorem dMo_opens_15 : decode cMo_opens 15 = .ok (.iaload, 1) := by decide +kernel
theorem dMo_opens_16 : decode cMo_opens 16 = .ok (.istore_n 2, 1) := by decide +kernel
theorem dMo_opens_17 : decode cMo_opens 17 = .ok (.iload_n 2, 1) := by decide +kernel
theorem dMo_opens_18 : decode cMo_opens 18 = .ok (.ifCond .ne 13, 3) := by decide +kernel
theorem dMo_opens_21 : decode cMo_opens 21 = .ok (.aload_n 0, 1) := by decide +kernel
theorem dMo_opens_22 : decode cMo_opens 22 = .ok (.bipush 63, 2) := by decide +kernel
theorem dMo_opens_24 : decode cMo_opens 24 = .ok (.iload_n 1, 1) := by decide +kernel
theorem dMo_opens_25 : decode cMo_opens 25 = .ok (.invokevirtual 187, 3) := by decide +kernel
theorem dMo_opens_28 : decode cMo_opens 28 = .ok (.goto 119, 3) := by decide +kernel
theorem dMo_opens_31 : decode cMo_opens 31 = .ok (.iload_n 2, 1) := by decide +kernel
theorem dMo_opens_32 : decode cMo_opens 32 = .ok (.iconst 1, 1) := by decide +kernel
theorem dMo_opens_33 : decode cMo_opens 33 = .ok (.if_icmp .ne 17, 3) := by decide +kernel
theorem dMo_opens_36 : decode cMo_opens 36 = .ok (.aload_n 0, 1) := by decide +kernel
theorem dMo_opens_37 : decode cMo_opens 37 = .ok (.aload_n 0, 1) := by decide +kernel
theorem dMo_opens_38 : decode cMo_opens 38 = .ok (.getfield 17, 3) := by decide +kernel
theorem dMo_opens_41 : decode cMo_opens 41 = .ok (.iload_n 1, 1) := by decide +kernel
theorem dMo_opens_42 : decode cMo_opens 42 = .ok (.iaload, 1) := by decide +kernel
theorem dMo_opens_43 : decode cMo_opens 43 = .ok (.iload_n 1, 1) := by decide +kernel
theorem dMo_opens_44 : decode cMo_opens 44 = .ok (.invokevirtual 190, 3) := by decide +kernel
theorem dMo_opens_47 : decode cMo_opens 47 = .ok (.goto 100, 3) := by decide +kernel
theorem dMo_opens_50 : decode cMo_opens 50 = .ok (.iload_n 2, 1) := by decide +kernel
theorem dMo_opens_51 : decode cMo_opens 51 = .ok (.iconst 2, 1) := by decide +kernel
theorem dMo_opens_52 : decode cMo_opens 52 = .ok (.if_icmp .ne 20, 3) := by decide +kernel
theorem dMo_opens_55 : decode cMo_opens 55 = .ok (.aload_n 0, 1) := by decide +kernel
theorem dMo_opens_56 : decode cMo_opens 56 = .ok (.bipush 97, 2) := by decide +kernel
theorem dMo_opens_58 : decode cMo_opens 58 = .ok (.aload_n 0, 1) := by decide +kernel
theorem dMo_opens_59 : decode cMo_opens 59 = .ok (.getfield 17, 3) := by decide +kernel
theorem dMo_opens_62 : decode cMo_opens 62 = .ok (.iload_n 1, 1) := by decide +kernel
theorem dMo_opens_63 : decode cMo_opens 63 = .ok (.iaload, 1) := by decide +kernel
theorem dMo_opens_64 : decode cMo_opens 64 = .ok (.iadd, 1) := by decide +kernel
theorem dMo_opens_65 : decode cMo_opens 65 = .ok (.iload_n 1, 1) := by decide +kernel
theorem dMo_opens_66 : decode cMo_opens 66 = .ok (.invokevirtual 187, 3) := by decide +kernel
theorem dMo_opens_69 : decode cMo_opens 69 = .ok (.goto 78, 3) := by decide +kernel
theorem dMo_opens_72 : decode cMo_opens 72 = .ok (.iload_n 2, 1) := by decide +kernel
theorem dMo_opens_73 : decode cMo_opens 73 = .ok (.iconst 3, 1) := by decide +kernel
theorem dMo_opens_74 : decode cMo_opens 74 = .ok (.if_icmp .ne 13, 3) := by decide +kernel
theorem dMo_opens_77 : decode cMo_opens 77 = .ok (.aload_n 0, 1) := by decide +kernel
theorem dMo_opens_78 : decode cMo_opens 78 = .ok (.bipush 40, 2) := by decide +kernel
theorem dMo_opens_80 : decode cMo_opens 80 = .ok (.iload_n 1, 1) := by decide +kernel
theorem dMo_opens_81 : decode cMo_opens 81 = .ok (.invokevirtual 187, 3) := by decide +kernel
theorem dMo_opens_84 : decode cMo_opens 84 = .ok (.goto 63, 3) := by decide +kernel
theorem dMo_opens_87 : decode cMo_opens 87 = .ok (.iload_n 2, 1) := by decide +kernel
theorem dMo_opens_88 : decode cMo_opens 88 = .ok (.iconst 5, 1) := by decide +kernel
theorem dMo_opens_89 : decode cMo_opens 89 = .ok (.if_icmp .ne 45, 3) := by decide +kernel
theorem dMo_opens_92 : decode cMo_opens 92 = .ok (.aload_n 0, 1) := by decide +kernel
theorem dMo_opens_93 : decode cMo_opens 93 = .ok (.bipush 91, 2) := by decide +kernel
theorem dMo_opens_95 : decode cMo_opens 95 = .ok (.iload_n 1, 1) := by decide +kernel
theorem dMo_opens_96 : decode cMo_opens 96 = .ok (.invokevirtual 187, 3) := by decide +kernel
theorem dMo_opens_99 : decode cMo_opens 99 = .ok (.aload_n 0, 1) := by decide +kernel
theorem dMo_opens_100 : decode cMo_opens 100 = .ok (.bipush 97, 2) := by decide +kernel
theorem dMo_opens_102 : decode cMo_opens 102 = .ok (.aload_n 0, 1) := by decide +kernel
theorem dMo_opens_103 : decode cMo_opens 103 = .ok (.getfield 17, 3) := by decide +kernel
theorem dMo_opens_106 : decode cMo_opens 106 = .ok (.iload_n 1, 1) := by decide +kernel
theorem dMo_opens_107 : decode cMo_opens 107 = .ok (.iaload, 1) := by decide +kernel
theorem dMo_opens_108 : decode cMo_opens 108 = .ok (.iadd, 1) := by decide +kernel
theorem dMo_opens_109 : decode cMo_opens 109 = .ok (.iload_n 1, 1) := by decide +kernel
theorem dMo_opens_110 : decode cMo_opens 110 = .ok (.invokevirtual 187, 3) := by decide +kernel
theorem dMo_opens_113 : decode cMo_opens 113 = .ok (.aload_n 0, 1) := by decide +kernel
theorem dMo_opens_114 : decode cMo_opens 114 = .ok (.bipush 58, 2) := by decide +kernel
theorem dMo_opens_116 : decode cMo_opens 116 = .ok (.iload_n 1, 1) := by decide +kernel
theorem dMo_opens_117 : decode cMo_opens 117 = .ok (.invokevirtual 187, 3) := by decide +kernel
theorem dMo_opens_120 : decode cMo_opens 120 = .ok (.aload_n 0, 1) := by decide +kernel
theorem dMo_opens_121 : decode cMo_opens 121 = .ok (.aload_n 0, 1) := by decide +kernel
theorem dMo_opens_122 : decode cMo_opens 122 = .ok (.getfield 20, 3) := by decide +kernel
theorem dMo_opens_125 : decode cMo_opens 125 = .ok (.iload_n 1, 1) := by decide +kernel
theorem dMo_opens_126 : decode cMo_opens 126 = .ok (.laload, 1) := by decide +kernel
theorem dMo_opens_127 : decode cMo_opens 127 = .ok (.iload_n 1, 1) := by decide +kernel
theorem dMo_opens_128 : decode cMo_opens 128 = .ok (.invokevirtual 193, 3) := by decide +kernel
theorem dMo_opens_131 : decode cMo_opens 131 = .ok (.goto 16, 3) := by decide +kernel
theorem dMo_opens_134 : decode cMo_opens 134 = .ok (.iload_n 2, 1) := by decide +kernel
theorem dMo_opens_135 : decode cMo_opens 135 = .ok (.bipush 6, 2) := by decide +kernel
theorem dMo_opens_137 : decode cMo_opens 137 = .ok (.if_icmp .ne 10, 3) := by decide +kernel
theorem dMo_opens_140 : decode cMo_opens 140 = .ok (.aload_n 0, 1) := by decide +kernel
theorem dMo_opens_141 : decode cMo_opens 141 = .ok (.bipush 123, 2) := by decide +kernel
theorem dMo_opens_143 : decode cMo_opens 143 = .ok (.iload_n 1, 1) := by decide +kernel
theorem dMo_opens_144 : decode cMo_opens 144 = .ok (.invokevirtual 187, 3) := by decide +kernel
theorem dMo_opens_147 : decode cMo_opens 147 = .ok (.return_, 1) := by decide +kernel
def f_Mo_opens  (v1 : Int32) (σ : Mem) : Option (Unit × Mem) :=
  gd (inb v1 48) (lt_ (sI σ 29 v1.toNatClampNeg (σ.1 15 17)) fun (σ2 : Mem) =>
  gd (inb v1 48) (
  lt_ (σ2.1 16 v1.toNatClampNeg) fun (x4 : Int32) =>
  if x4 = 0 then (
  bn (f_Mo_put (63 : Int32) v1 σ2) fun (_ : Unit) (σ26 : Mem) =>
  some ((), σ26))
  else (
  if x4 = (1 : Int32) then (
  gd (inb v1 48) (
  bn (f_Mo_putNumber (σ2.1 17 v1.toNatClampNeg) v1 σ2) fun (_ : Unit) (σ24 : Mem) =>
  some ((), σ24)))
  else (
  if x4 = (2 : Int32) then (
  gd (inb v1 48) (
  bn (f_Mo_put ((97 : Int32) + (σ2.1 17 v1.toNatClampNeg)) v1 σ2) fun (_ : Unit) (σ21 : Mem) =>
  some ((), σ21)))
  else (
  if x4 = (3 : Int32) then (
  bn (f_Mo_put (40 : Int32) v1 σ2) fun (_ : Unit) (σ18 : Mem) =>
  some ((), σ18))
  else (
  if x4 = (5 : Int32) then (
  bn (f_Mo_put (91 : Int32) v1 σ2) fun (_ : Unit) (σ8 : Mem) =>
  gd (inb v1 48) (
  bn (f_Mo_put ((97 : Int32) + (σ8.1 17 v1.toNatClampNeg)) v1 σ8) fun (_ : Unit) (σ11 : Mem) =>
  bn (f_Mo_put (58 : Int32) v1 σ11) fun (_ : Unit) (σ13 : Mem) =>
  gd (inb v1 48) (
  bn (f_Mo_putType (σ13.2 18 v1.toNatClampNeg) v1 σ13) fun (_ : Unit) (σ16 : Mem) =>
  some ((), σ16))))
  else (
  if x4 = (6 : Int32) then (
  bn (f_Mo_put (123 : Int32) v1 σ2) fun (_ : Unit) (σ6 : Mem) =>
  some ((), σ6))
  else (
  some ((), σ2)))))))))
set_option maxHeartbeats 4000000 in
set_option maxRecDepth 100000 in
theorem c_Mo_opens (l : Launch) (g : Gw) (hg : wInj g) {v1 : Int32} {σ σ0 : Mem} (h : f_Mo_opens v1 σ = some ((), σ0)) : KV l yMo_opens cMo_opens 3 none 3 g [.ref (ad g 15), .int v1] σ σ0 := by
  refine q_met g hg (own := "TermBenchModel") rfl rfl (Nat.le_of_ble_eq_true rfl) (fun p e s m args below meth c R Q cx hRk hr hQ H locs ls hP hS hl => ?_)
  have hx := cx.1
  have hb := cx.2.1
  have hown := cx.2.2.2.1
  have hts := cx.2.2.2.2.1
  have hl : lv_has ls 3 [(0, .ref (ad g 15)), (1, .int v1)] := hl
  unfold f_Mo_opens at h
  refine lv_aload_n hx hb dMo_opens_0 rfl (lv_at hl 0 rfl) ?_
  refine g_Mo_begins cx hP  t_550 dMo_opens_1 ?_
  refine lv_iload_n hx hb dMo_opens_4 rfl (lv_at hl 1 rfl) ?_
  refine lv_aload_n hx hb dMo_opens_5 rfl (lv_at hl 0 rfl) ?_
  refine g_Mo_length cx hP  t_547 dMo_opens_6 ?_
  obtain ⟨b1, h⟩ := gd_some h
  obtain ⟨σ2, eσ2, h⟩ := lt_some h
  refine q_iast cx hP hS (by decide) (e_29 g) b1 dMo_opens_9 eσ2 (fun H locs hP hS => ?_)
  refine lv_aload_n hx hb dMo_opens_10 rfl (lv_at hl 0 rfl) ?_
  refine g_Mo_kinds cx hP  t_532 dMo_opens_11 ?_
  refine lv_iload_n hx hb dMo_opens_14 rfl (lv_at hl 1 rfl) ?_
  obtain ⟨b3, h⟩ := gd_some h
  refine q_iald cx hP (by decide) (e_16 g) b3 dMo_opens_15 ?_
  obtain ⟨x4, ex4, h⟩ := lt_some h
  refine q_nmi ex4 ?_
  refine lv_istore_n (lv' := [(2, .int x4), (0, .ref (ad g 15)), (1, .int v1)]) hx hb dMo_opens_16 rfl hl (Nat.le_of_ble_eq_true rfl) rfl (fun ls hl => ?_)
  refine lv_iload_n hx hb dMo_opens_17 rfl (lv_at hl 0 rfl) ?_
  refine lv_if_ne (tgt := 31) hx hb dMo_opens_18 (by decide) (fun hc => ?_) (fun hc => ?_)
  · replace h := if_f h hc
    refine lv_iload_n hx hb dMo_opens_31 rfl (lv_at hl 0 rfl) ?_
    refine lv_iconst (v := 1) hx hb dMo_opens_32 (by decide) ?_
    refine lv_icmp_ne (tgt := 50) hx hb dMo_opens_33 (by decide) (fun hc => ?_) (fun hc => ?_)
    · replace h := if_f h hc
      refine lv_iload_n hx hb dMo_opens_50 rfl (lv_at hl 0 rfl) ?_
      refine lv_iconst (v := 2) hx hb dMo_opens_51 (by decide) ?_
      refine lv_icmp_ne (tgt := 72) hx hb dMo_opens_52 (by decide) (fun hc => ?_) (fun hc => ?_)
      · replace h := if_f h hc
        refine lv_iload_n hx hb dMo_opens_72 rfl (lv_at hl 0 rfl) ?_
        refine lv_iconst (v := 3) hx hb dMo_opens_73 (by decide) ?_
        refine lv_icmp_ne (tgt := 87) hx hb dMo_opens_74 (by decide) (fun hc => ?_) (fun hc => ?_)
        · replace h := if_f h hc
          refine lv_iload_n hx hb dMo_opens_87 rfl (lv_at hl 0 rfl) ?_
          refine lv_iconst (v := 5) hx hb dMo_opens_88 (by decide) ?_
          refine lv_icmp_ne (tgt := 134) hx hb dMo_opens_89 (by decide) (fun hc => ?_) (fun hc => ?_)
          · replace h := if_f h hc
            refine lv_iload_n hx hb dMo_opens_134 rfl (lv_at hl 0 rfl) ?_
            refine lv_bipush (v := 6) hx hb dMo_opens_135 (by decide) ?_
            refine lv_icmp_ne (tgt := 147) hx hb dMo_opens_137 (by decide) (fun hc => ?_) (fun hc => ?_)
            · replace h := if_f h hc
              exact q_rv cx hr hP hS hQ h dMo_opens_147
            · replace h := if_t h hc
              refine lv_aload_n hx hb dMo_opens_140 rfl (lv_at hl 1 rfl) ?_
              refine lv_bipush (v := 123) hx hb dMo_opens_141 (by decide) ?_
              refine lv_iload_n hx hb dMo_opens_143 rfl (lv_at hl 2 rfl) ?_
              obtain ⟨rh5, σ6, h5, h⟩ := bn_some h
              refine q_cVv (rest := []) (As := [.int (123 : Int32), .int v1]) cx hP hS hRk (c_Mo_put l g hg h5) Y_Mo_put V_Mo_put t_782 (by decide) (by decide) (e_15 g _ _) rfl rfl hl.1 rfl (Nat.le_of_ble_eq_true rfl) dMo_opens_144 (fun H locs hP hS => ?_)
              exact q_rv cx hr hP hS hQ h dMo_opens_147
          · replace h := if_t h hc
            refine lv_aload_n hx hb dMo_opens_92 rfl (lv_at hl 1 rfl) ?_
            refine lv_bipush (v := 91) hx hb dMo_opens_93 (by decide) ?_
            refine lv_iload_n hx hb dMo_opens_95 rfl (lv_at hl 2 rfl) ?_
            obtain ⟨rh7, σ8, h7, h⟩ := bn_some h
            refine q_cVv (rest := []) (As := [.int (91 : Int32), .int v1]) cx hP hS hRk (c_Mo_put l g hg h7) Y_Mo_put V_Mo_put t_782 (by decide) (by decide) (e_15 g _ _) rfl rfl hl.1 rfl (Nat.le_of_ble_eq_true rfl) dMo_opens_96 (fun H locs hP hS => ?_)
            refine lv_aload_n hx hb dMo_opens_99 rfl (lv_at hl 1 rfl) ?_
            refine lv_bipush (v := 97) hx hb dMo_opens_100 (by decide) ?_
            refine lv_aload_n hx hb dMo_opens_102 rfl (lv_at hl 1 rfl) ?_
            refine g_Mo_values cx hP  t_533 dMo_opens_103 ?_
            refine lv_iload_n hx hb dMo_opens_106 rfl (lv_at hl 2 rfl) ?_
            obtain ⟨b9, h⟩ := gd_some h
            refine q_iald cx hP (by decide) (e_17 g) b9 dMo_opens_107 ?_
            refine lv_iadd hx hb dMo_opens_108 ?_
            refine lv_iload_n hx hb dMo_opens_109 rfl (lv_at hl 2 rfl) ?_
            obtain ⟨rh10, σ11, h10, h⟩ := bn_some h
            refine q_cVv (rest := []) (As := [.int ((97 : Int32) + (σ8.1 17 v1.toNatClampNeg)), .int v1]) cx hP hS hRk (c_Mo_put l g hg h10) Y_Mo_put V_Mo_put t_782 (by decide) (by decide) (e_15 g _ _) rfl rfl hl.1 rfl (Nat.le_of_ble_eq_true rfl) dMo_opens_110 (fun H locs hP hS => ?_)
            refine lv_aload_n hx hb dMo_opens_113 rfl (lv_at hl 1 rfl) ?_
            refine lv_bipush (v := 58) hx hb dMo_opens_114 (by decide) ?_
            refine lv_iload_n hx hb dMo_opens_116 rfl (lv_at hl 2 rfl) ?_
            obtain ⟨rh12, σ13, h12, h⟩ := bn_some h
            refine q_cVv (rest := []) (As := [.int (58 : Int32), .int v1]) cx hP hS hRk (c_Mo_put l g hg h12) Y_Mo_put V_Mo_put t_782 (by decide) (by decide) (e_15 g _ _) rfl rfl hl.1 rfl (Nat.le_of_ble_eq_true rfl) dMo_opens_117 (fun H locs hP hS => ?_)
            refine lv_aload_n hx hb dMo_opens_120 rfl (lv_at hl 1 rfl) ?_
            refine lv_aload_n hx hb dMo_opens_121 rfl (lv_at hl 1 rfl) ?_
            refine g_Mo_types cx hP  t_534 dMo_opens_122 ?_
            refine lv_iload_n hx hb dMo_opens_125 rfl (lv_at hl 2 rfl) ?_
            obtain ⟨b14, h⟩ := gd_some h
            refine q_lald cx hP (by decide) (e_18 g) b14 dMo_opens_126 ?_
            refine lv_iload_n hx hb dMo_opens_127 rfl (lv_at hl 2 rfl) ?_
            obtain ⟨rh15, σ16, h15, h⟩ := bn_some h
            refine q_cVv (rest := []) (As := [.long (σ13.2 18 v1.toNatClampNeg), .int v1]) cx hP hS hRk (c_Mo_putType l g hg h15) Y_Mo_putType V_Mo_putType t_790 (by decide) (by decide) (e_15 g _ _) rfl rfl hl.1 rfl (Nat.le_of_ble_eq_true rfl) dMo_opens_128 (fun H locs hP hS => ?_)
            refine lv_goto (tgt := 147) hx hb dMo_opens_131 (by decide) ?_
            exact q_rv cx hr hP hS hQ h dMo_opens_147
        · replace h := if_t h hc
          refine lv_aload_n hx hb dMo_opens_77 rfl (lv_at hl 1 rfl) ?_
          refine lv_bipush (v := 40) hx hb dMo_opens_78 (by decide) ?_
          refine lv_iload_n hx hb dMo_opens_80 rfl (lv_at hl 2 rfl) ?_
          obtain ⟨rh17, σ18, h17, h⟩ := bn_some h
          refine q_cVv (rest := []) (As := [.int (40 : Int32), .int v1]) cx hP hS hRk (c_Mo_put l g hg h17) Y_Mo_put V_Mo_put t_782 (by decide) (by decide) (e_15 g _ _) rfl rfl hl.1 rfl (Nat.le_of_ble_eq_true rfl) dMo_opens_81 (fun H locs hP hS => ?_)
          refine lv_goto (tgt := 147) hx hb dMo_opens_84 (by decide) ?_
          exact q_rv cx hr hP hS hQ h dMo_opens_147
      · replace h := if_t h hc
        refine lv_aload_n hx hb dMo_opens_55 rfl (lv_at hl 1 rfl) ?_
        refine lv_bipush (v := 97) hx hb dMo_opens_56 (by decide) ?_
        refine lv_aload_n hx hb dMo_opens_58 rfl (lv_at hl 1 rfl) ?_
        refine g_Mo_values cx hP  t_533 dMo_opens_59 ?_
        refine lv_iload_n hx hb dMo_opens_62 rfl (lv_at hl 2 rfl) ?_
        obtain ⟨b19, h⟩ := gd_some h
        refine q_iald cx hP (by decide) (e_17 g) b19 dMo_opens_63 ?_
        refine lv_iadd hx hb dMo_opens_64 ?_
        refine lv_iload_n hx hb dMo_opens_65 rfl (lv_at hl 2 rfl) ?_
        obtain ⟨rh20, σ21, h20, h⟩ := bn_some h
        refine q_cVv (rest := []) (As := [.int ((97 : Int32) + (σ2.1 17 v1.toNatClampNeg)), .int v1]) cx hP hS hRk (c_Mo_put l g hg h20) Y_Mo_put V_Mo_put t_782 (by decide) (by decide) (e_15 g _ _) rfl rfl hl.1 rfl (Nat.le_of_ble_eq_true rfl) dMo_opens_66 (fun H locs hP hS => ?_)
        refine lv_goto (tgt := 147) hx hb dMo_opens_69 (by decide) ?_
        exact q_rv cx hr hP hS hQ h dMo_opens_147
    · replace h := if_t h hc
      refine lv_aload_n hx hb dMo_opens_36 rfl (lv_at hl 1 rfl) ?_
      refine lv_aload_n hx hb dMo_opens_37 rfl (lv_at hl 1 rfl) ?_
      refine g_Mo_values cx hP  t_533 dMo_opens_38 ?_
      refine lv_iload_n hx hb dMo_opens_41 rfl (lv_at hl 2 rfl) ?_
      obtain ⟨b22, h⟩ := gd_some h
      refine q_iald cx hP (by decide) (e_17 g) b22 dMo_opens_42 ?_
      refine lv_iload_n hx hb dMo_opens_43 rfl (lv_at hl 2 rfl) ?_
      obtain ⟨rh23, σ24, h23, h⟩ := bn_some h
      refine q_cVv (rest := []) (As := [.int (σ2.1 17 v1.toNatClampNeg), .int v1]) cx hP hS hRk (c_Mo_putNumber l g hg h23) Y_Mo_putNumber V_Mo_putNumber t_786 (by decide) (by decide) (e_15 g _ _) rfl rfl hl.1 rfl (Nat.le_of_ble_eq_true rfl) dMo_opens_44 (fun H locs hP hS => ?_)
      refine lv_goto (tgt := 147) hx hb dMo_opens_47 (by decide) ?_
      exact q_rv cx hr hP hS hQ h dMo_opens_147
  · replace h := if_t h hc
    refine lv_aload_n hx hb dMo_opens_21 rfl (lv_at hl 1 rfl) ?_
    refine lv_bipush (v := 63) hx hb dMo_opens_22 (by decide) ?_
    refine lv_iload_n hx hb dMo_opens_24 rfl (lv_at hl 2 rfl) ?_
    obtain ⟨rh25, σ26, h25, h⟩ := bn_some h
    refine q_cVv (rest := []) (As := [.int (63 : Int32), .int v1]) cx hP hS hRk (c_Mo_put l g hg h25) Y_Mo_put V_Mo_put t_782 (by decide) (by decide) (e_15 g _ _) rfl rfl hl.1 rfl (Nat.le_of_ble_eq_true rfl) dMo_opens_25 (fun H locs hP hS => ?_)
    refine lv_goto (tgt := 147) hx hb dMo_opens_28 (by decide) ?_
    exact q_rv cx hr hP hS hQ h dMo_opens_147
theorem dMo_closes_0 : decode cMo_closes 0 = .ok (.aload_n 0, 1) := by decide +kernel
theorem dMo_closes_1 : decode cMo_closes 1 = .ok (.getfield 13, 3) := by decide +kernel
theorem dMo_closes_4 : decode cMo_closes 4 = .ok (.iload_n 1, 1) := by decide +kernel
theorem dMo_closes_5 : decode cMo_closes 5 = .ok (.iaload, 1) := by decide +kernel
theorem dMo_closes_6 : decode cMo_closes 6 = .ok (.bipush 6, 2) := by decide +kernel
theorem dMo_closes_8 : decode cMo_closes 8 = .ok (.if_icmp .ne 31, 3) := by decide +kernel
theorem dMo_closes_11 : decode cMo_closes 11 = .ok (.aload_n 0, 1) := by decide +kernel
theorem dMo_closes_12 : decode cMo_closes 12 = .ok (.bipush 58, 2) := by decide +kernel
theorem dMo_closes_14 : decode cMo_closes 14 = .ok (.iload_n 1, 1) := by decide +kernel
theorem dMo_closes_15 : decode cMo_closes 15 = .ok (.invokevirtual 187, 3) := by decide +kernel
theorem dMo_closes_18 : decode cMo_closes 18 = .ok (.aload_n 0, 1) := by decide +kernel
theorem dMo_closes_19 : decode cMo_closes 19 = .ok (.aload_n 0, 1) := by decide +kernel
theorem dMo_closes_20 : decode cMo_closes 20 = .ok (.getfield 20, 3) := by decide +kernel
theorem dMo_closes_23 : decode cMo_closes 23 = .ok (.iload_n 1, 1) := by decide +kernel
theorem dMo_closes_24 : decode cMo_closes 24 = .ok (.laload, 1) := by decide +kernel
theorem dMo_closes_25 : decode cMo_closes 25 = .ok (.iload_n 1, 1) := by decide +kernel
theorem dMo_closes_26 : decode cMo_closes 26 = .ok (.invokevirtual 193, 3) := by decide +kernel
theorem dMo_closes_29 : decode cMo_closes 29 = .ok (.aload_n 0, 1) := by decide +kernel
theorem dMo_closes_30 : decode cMo_closes 30 = .ok (.bipush 125, 2) := by decide +kernel
theorem dMo_closes_32 : decode cMo_closes 32 = .ok (.iload_n 1, 1) := by decide +kernel
theorem dMo_closes_33 : decode cMo_closes 33 = .ok (.invokevirtual 187, 3) := by decide +kernel
theorem dMo_closes_36 : decode cMo_closes 36 = .ok (.goto 25, 3) := by decide +kernel
theorem dMo_closes_39 : decode cMo_closes 39 = .ok (.aload_n 0, 1) := by decide +kernel
theorem dMo_closes_40 : decode cMo_closes 40 = .ok (.aload_n 0, 1) := by decide +kernel
theorem dMo_closes_41 : decode cMo_closes 41 = .ok (.getfield 13, 3) := by decide +kernel
theorem dMo_closes_44 : decode cMo_closes 44 = .ok (.iload_n 1, 1) := by decide +kernel
theorem dMo_closes_45 : decode cMo_closes 45 = .ok (.iaload, 1) := by decide +kernel
theorem dMo_closes_46 : decode cMo_closes 46 = .ok (.iconst 5, 1) := by decide +kernel
theorem dMo_closes_47 : decode cMo_closes 47 = .ok (.if_icmp .ne 8, 3) := by decide +kernel
theorem dMo_closes_50 : decode cMo_closes 50 = .ok (.bipush 93, 2) := by decide +kernel
theorem dMo_closes_52 : decode cMo_closes 52 = .ok (.goto 5, 3) := by decide +kernel
theorem dMo_closes_55 : decode cMo_closes 55 = .ok (.bipush 41, 2) := by decide +kernel
theorem dMo_closes_57 : decode cMo_closes 57 = .ok (.iload_n 1, 1) := by decide +kernel
theorem dMo_closes_58 : decode cMo_closes 58 = .ok (.invokevirtual 187, 3) := by decide +kernel
theorem dMo_closes_61 : decode cMo_closes 61 = .ok (.return_, 1) := by decide +kernel
def f_Mo_closes_J57  (v1 : Int32) (u1 : Int32) (σ : Mem) : Option (Unit × Mem) :=
  bn (f_Mo_put u1 v1 σ) fun (_ : Unit) (σ2 : Mem) =>
  some ((), σ2)
def f_Mo_closes  (v1 : Int32) (σ : Mem) : Option (Unit × Mem) :=
  gd (inb v1 48) (
  if (σ.1 16 v1.toNatClampNeg) = (6 : Int32) then (
  bn (f_Mo_put (58 : Int32) v1 σ) fun (_ : Unit) (σ6 : Mem) =>
  gd (inb v1 48) (
  bn (f_Mo_putType (σ6.2 18 v1.toNatClampNeg) v1 σ6) fun (_ : Unit) (σ9 : Mem) =>
  bn (f_Mo_put (125 : Int32) v1 σ9) fun (_ : Unit) (σ11 : Mem) =>
  some ((), σ11)))
  else (
  gd (inb v1 48) (
  if (σ.1 16 v1.toNatClampNeg) = (5 : Int32) then (
  f_Mo_closes_J57 v1 (93 : Int32) σ)
  else (
  f_Mo_closes_J57 v1 (41 : Int32) σ))))
set_option maxHeartbeats 4000000 in
set_option maxRecDepth 100000 in
theorem c_Mo_closes (l : Launch) (g : Gw) (hg : wInj g) {v1 : Int32} {σ σ0 : Mem} (h : f_Mo_closes v1 σ = some ((), σ0)) : KV l yMo_closes cMo_closes 2 none 3 g [.ref (ad g 15), .int v1] σ σ0 := by
  refine q_met g hg (own := "TermBenchModel") rfl rfl (Nat.le_of_ble_eq_true rfl) (fun p e s m args below meth c R Q cx hRk hr hQ H locs ls hP hS hl => ?_)
  have hx := cx.1
  have hb := cx.2.1
  have hown := cx.2.2.2.1
  have hts := cx.2.2.2.2.1
  have hl : lv_has ls 2 [(0, .ref (ad g 15)), (1, .int v1)] := hl
  have J57 : ∀ (v1 : Int32) (u1 : Int32) (σ : Mem), f_Mo_closes_J57 v1 u1 σ = some ((), σ0) → ∀ (H : Heap) (locs : List Loc) (ls : Array Slot), lv_has ls 2 [(0, .ref (ad g 15)), (1, .int v1)] → Wd g σ H → va_S (wA g) s.heap H locs → W p l e R s m args below meth c H locs 0 0 Q (F0 m 57 ls [.int u1, .ref (ad g 15)]) := by
    intro v1 u1 σ h H locs ls hl hP hS
    unfold f_Mo_closes_J57 at h
    refine lv_iload_n hx hb dMo_closes_57 rfl (lv_at hl 1 rfl) ?_
    obtain ⟨rh1, σ2, h1, h⟩ := bn_some h
    refine q_cVv (rest := []) (As := [.int u1, .int v1]) cx hP hS hRk (c_Mo_put l g hg h1) Y_Mo_put V_Mo_put t_782 (by decide) (by decide) (e_15 g _ _) rfl rfl hl.1 rfl (Nat.le_of_ble_eq_true rfl) dMo_closes_58 (fun H locs hP hS => ?_)
    exact q_rv cx hr hP hS hQ h dMo_closes_61
  unfold f_Mo_closes at h
  refine lv_aload_n hx hb dMo_closes_0 rfl (lv_at hl 0 rfl) ?_
  refine g_Mo_kinds cx hP  t_532 dMo_closes_1 ?_
  refine lv_iload_n hx hb dMo_closes_4 rfl (lv_at hl 1 rfl) ?_
  obtain ⟨b3, h⟩ := gd_some h
  refine q_iald cx hP (by decide) (e_16 g) b3 dMo_closes_5 ?_
  refine lv_bipush (v := 6) hx hb dMo_closes_6 (by decide) ?_
  refine lv_icmp_ne (tgt := 39) hx hb dMo_closes_8 (by decide) (fun hc => ?_) (fun hc => ?_)
  · replace h := if_f h hc
    refine lv_aload_n hx hb dMo_closes_39 rfl (lv_at hl 0 rfl) ?_
    refine lv_aload_n hx hb dMo_closes_40 rfl (lv_at hl 0 rfl) ?_
    refine g_Mo_kinds cx hP  t_532 dMo_closes_41 ?_
    refine lv_iload_n hx hb dMo_closes_44 rfl (lv_at hl 1 rfl) ?_
    obtain ⟨b4, h⟩ := gd_some h
    refine q_iald cx hP (by decide) (e_16 g) b4 dMo_closes_45 ?_
    refine lv_iconst (v := 5) hx hb dMo_closes_46 (by decide) ?_
    refine lv_icmp_ne (tgt := 55) hx hb dMo_closes_47 (by decide) (fun hc => ?_) (fun hc => ?_)
    · replace h := if_f h hc
      refine lv_bipush (v := 41) hx hb dMo_closes_55 (by decide) ?_
      exact J57 _ _ _ h _ _ _ (lv_sub hl [0, 1] rfl) hP hS
    · replace h := if_t h hc
      refine lv_bipush (v := 93) hx hb dMo_closes_50 (by decide) ?_
      refine lv_goto (tgt := 57) hx hb dMo_closes_52 (by decide) ?_
      exact J57 _ _ _ h _ _ _ (lv_sub hl [0, 1] rfl) hP hS
  · replace h := if_t h hc
    refine lv_aload_n hx hb dMo_closes_11 rfl (lv_at hl 0 rfl) ?_
    refine lv_bipush (v := 58) hx hb dMo_closes_12 (by decide) ?_
    refine lv_iload_n hx hb dMo_closes_14 rfl (lv_at hl 1 rfl) ?_
    obtain ⟨rh5, σ6, h5, h⟩ := bn_some h
    refine q_cVv (rest := []) (As := [.int (58 : Int32), .int v1]) cx hP hS hRk (c_Mo_put l g hg h5) Y_Mo_put V_Mo_put t_782 (by decide) (by decide) (e_15 g _ _) rfl rfl hl.1 rfl (Nat.le_of_ble_eq_true rfl) dMo_closes_15 (fun H locs hP hS => ?_)
    refine lv_aload_n hx hb dMo_closes_18 rfl (lv_at hl 0 rfl) ?_
    refine lv_aload_n hx hb dMo_closes_19 rfl (lv_at hl 0 rfl) ?_
    refine g_Mo_types cx hP  t_534 dMo_closes_20 ?_
    refine lv_iload_n hx hb dMo_closes_23 rfl (lv_at hl 1 rfl) ?_
    obtain ⟨b7, h⟩ := gd_some h
    refine q_lald cx hP (by decide) (e_18 g) b7 dMo_closes_24 ?_
    refine lv_iload_n hx hb dMo_closes_25 rfl (lv_at hl 1 rfl) ?_
    obtain ⟨rh8, σ9, h8, h⟩ := bn_some h
    refine q_cVv (rest := []) (As := [.long (σ6.2 18 v1.toNatClampNeg), .int v1]) cx hP hS hRk (c_Mo_putType l g hg h8) Y_Mo_putType V_Mo_putType t_790 (by decide) (by decide) (e_15 g _ _) rfl rfl hl.1 rfl (Nat.le_of_ble_eq_true rfl) dMo_closes_26 (fun H locs hP hS => ?_)
    refine lv_aload_n hx hb dMo_closes_29 rfl (lv_at hl 0 rfl) ?_
    refine lv_bipush (v := 125) hx hb dMo_closes_30 (by decide) ?_
    refine lv_iload_n hx hb dMo_closes_32 rfl (lv_at hl 1 rfl) ?_
    obtain ⟨rh10, σ11, h10, h⟩ := bn_some h
    refine q_cVv (rest := []) (As := [.int (125 : Int32), .int v1]) cx hP hS hRk (c_Mo_put l g hg h10) Y_Mo_put V_Mo_put t_782 (by decide) (by decide) (e_15 g _ _) rfl rfl hl.1 rfl (Nat.le_of_ble_eq_true rfl) dMo_closes_33 (fun H locs hP hS => ?_)
    refine lv_goto (tgt := 61) hx hb dMo_closes_36 (by decide) ?_
    exact q_rv cx hr hP hS hQ h dMo_closes_61
theorem dMo_spell_0 : decode cMo_spell 0 = .ok (.aload_n 0, 1) := by decide +kernel
theorem dMo_spell_1 : decode cMo_spell 1 = .ok (.getfield 130, 3) := by decide +kernel
theorem dMo_spell_4 : decode cMo_spell 4 = .ok (.ifCond .eq 4, 3) := by decide +kernel
theorem dMo_spell_7 : decode cMo_spell 7 = .ok (.return_, 1) := by decide +kernel
theorem dMo_spell_8 : decode cMo_spell 8 = .ok (.aload_n 0, 1) := by decide +kernel
theorem dMo_spell_9 : decode cMo_spell 9 = .ok (.iconst 1, 1) := by decide +kernel
theorem dMo_spell_10 : decode cMo_spell 10 = .ok (.putfield 130, 3) := by decide +kernel
theorem dMo_spell_13 : decode cMo_spell 13 = .ok (.aload_n 0, 1) := by decide +kernel
theorem dMo_spell_14 : decode cMo_spell 14 = .ok (.iconst 0, 1) := by decide +kernel
theorem dMo_spell_15 : decode cMo_spell 15 = .ok (.putfield 184, 3) := by decide +kernel
theorem dMo_spell_18 : decode cMo_spell 18 = .ok (.iconst 0, 1) := by decide +kernel
theorem dMo_spell_19 : decode cMo_spell 19 = .ok (.istore_n 1, 1) := by decide +kernel
theorem dMo_spell_20 : decode cMo_spell 20 = .ok (.iconst 0, 1) := by decide +kernel
theorem dMo_spell_21 : decode cMo_spell 21 = .ok (.istore_n 2, 1) := by decide +kernel
theorem dMo_spell_22 : decode cMo_spell 22 = .ok (.iload_n 2, 1) := by decide +kernel
theorem dMo_spell_23 : decode cMo_spell 23 = .ok (.aload_n 0, 1) := by decide +kernel
theorem dMo_spell_24 : decode cMo_spell 24 = .ok (.getfield 7, 3) := by decide +kernel
theorem dMo_spell_27 : decode cMo_spell 27 = .ok (.if_icmp .ge 162, 3) := by decide +kernel
theorem dMo_spell_30 : decode cMo_spell 30 = .ok (.aload_n 0, 1) := by decide +kernel
theorem dMo_spell_31 : decode cMo_spell 31 = .ok (.iload_n 2, 1) := by decide +kernel
theorem dMo_spell_32 : decode cMo_spell 32 = .ok (.invokevirtual 197, 3) := by decide +kernel
theorem dMo_spell_35 : decode cMo_spell 35 = .ok (.aload_n 0, 1) := by decide +kernel
theorem dMo_spell_36 : decode cMo_spell 36 = .ok (.getfield 13, 3) := by decide +kernel
theorem dMo_spell_39 : decode cMo_spell 39 = .ok (.iload_n 2, 1) := by decide +kernel
theorem dMo_spell_40 : decode cMo_spell 40 = .ok (.iaload, 1) := by decide +kernel
theorem dMo_spell_41 : decode cMo_spell 41 = .ok (.invokestatic 112, 3) := by decide +kernel
theorem dMo_spell_44 : decode cMo_spell 44 = .ok (.ifCond .le 23, 3) := by decide +kernel
theorem dMo_spell_47 : decode cMo_spell 47 = .ok (.aload_n 0, 1) := by decide +kernel
theorem dMo_spell_48 : decode cMo_spell 48 = .ok (.getfield 57, 3) := by decide +kernel
theorem dMo_spell_51 : decode cMo_spell 51 = .ok (.iload_n 1, 1) := by decide +kernel
theorem dMo_spell_52 : decode cMo_spell 52 = .ok (.iload_n 2, 1) := by decide +kernel
theorem dMo_spell_53 : decode cMo_spell 53 = .ok (.iastore, 1) := by decide +kernel
theorem dMo_spell_54 : decode cMo_spell 54 = .ok (.aload_n 0, 1) := by decide +kernel
theorem dMo_spell_55 : decode cMo_spell 55 = .ok (.getfield 60, 3) := by decide +kernel
theorem dMo_spell_58 : decode cMo_spell 58 = .ok (.iload_n 1, 1) := by decide +kernel
theorem dMo_spell_59 : decode cMo_spell 59 = .ok (.iconst 0, 1) := by decide +kernel
theorem dMo_spell_60 : decode cMo_spell 60 = .ok (.iastore, 1) := by decide +kernel
theorem dMo_spell_61 : decode cMo_spell 61 = .ok (.iinc 1 1, 3) := by decide +kernel
theorem dMo_spell_64 : decode cMo_spell 64 = .ok (.goto 119, 3) := by decide +kernel
theorem dMo_spell_67 : decode cMo_spell 67 = .ok (.iload_n 1, 1) := by decide +kernel
theorem dMo_spell_68 : decode cMo_spell 68 = .ok (.ifCond .le 7, 3) := by decide +kernel
theorem dMo_spell_71 : decode cMo_spell 71 = .ok (.iconst 1, 1) := by decide +kernel
theorem dMo_spell_72 : decode cMo_spell 72 = .ok (.goto 4, 3) := by decide +kernel
theorem dMo_spell_75 : decode cMo_spell 75 = .ok (.iconst 0, 1) := by decide +kernel
theorem dMo_spell_76 : decode cMo_spell 76 = .ok (.istore_n 3, 1) := by decide +kernel
theorem dMo_spell_77 : decode cMo_spell 77 = .ok (.iload_n 3, 1) := by decide +kernel
theorem dMo_spell_78 : decode cMo_spell 78 = .ok (.ifCond .eq 105, 3) := by decide +kernel
theorem dMo_spell_81 : decode cMo_spell 81 = .ok (.aload_n 0, 1) := by decide +kernel
theorem dMo_spell_82 : decode cMo_spell 82 = .ok (.getfield 57, 3) := by decide +kernel
theorem dMo_spell_85 : decode cMo_spell 85 = .ok (.iload_n 1, 1) := by decide +kernel
theorem dMo_spell_86 : decode cMo_spell 86 = .ok (.iconst 1, 1) := by decide +kernel
theorem dMo_spell_87 : decode cMo_spell 87 = .ok (.isub, 1) := by decide +kernel
theorem dMo_spell_88 : decode cMo_spell 88 = .ok (.iaload, 1) := by decide +kernel
theorem dMo_spell_89 : decode cMo_spell 89 = .ok (.istore 4, 2) := by decide +kernel
theorem dMo_spell_91 : decode cMo_spell 91 = .ok (.aload_n 0, 1) := by decide +kernel
theorem dMo_spell_92 : decode cMo_spell 92 = .ok (.getfield 60, 3) := by decide +kernel
theorem dMo_spell_95 : decode cMo_spell 95 = .ok (.iload_n 1, 1) := by decide +kernel
theorem dMo_spell_96 : decode cMo_spell 96 = .ok (.iconst 1, 1) := by decide +kernel
theorem dMo_spell_97 : decode cMo_spell 97 = .ok (.isub, 1) := by decide +kernel
theorem dMo_spell_98 : decode cMo_spell 98 = .ok (.dup2, 1) := by decide +kernel
theorem dMo_spell_99 : decode cMo_spell 99 = .ok (.iaload, 1) := by decide +kernel
theorem dMo_spell_100 : decode cMo_spell 100 = .ok (.iconst 1, 1) := by decide +kernel
theorem dMo_spell_101 : decode cMo_spell 101 = .ok (.iadd, 1) := by decide +kernel
theorem dMo_spell_102 : decode cMo_spell 102 = .ok (.iastore, 1) := by decide +kernel
theorem dMo_spell_103 : decode cMo_spell 103 = .ok (.aload_n 0, 1) := by decide +kernel
theorem dMo_spell_104 : decode cMo_spell 104 = .ok (.getfield 60, 3) := by decide +kernel
theorem dMo_spell_107 : decode cMo_spell 107 = .ok (.iload_n 1, 1) := by decide +kernel
theorem dMo_spell_108 : decode cMo_spell 108 = .ok (.iconst 1, 1) := by decide +kernel
theorem dMo_spell_109 : decode cMo_spell 109 = .ok (.isub, 1) := by decide +kernel
theorem dMo_spell_110 : decode cMo_spell 110 = .ok (.iaload, 1) := by decide +kernel
theorem dMo_spell_111 : decode cMo_spell 111 = .ok (.aload_n 0, 1) := by decide +kernel
theorem dMo_spell_112 : decode cMo_spell 112 = .ok (.getfield 13, 3) := by decide +kernel
theorem dMo_spell_115 : decode cMo_spell 115 = .ok (.iload 4, 2) := by decide +kernel
theorem dMo_spell_117 : decode cMo_spell 117 = .ok (.iaload, 1) := by decide +kernel
theorem dMo_spell_118 : decode cMo_spell 118 = .ok (.invokestatic 112, 3) := by decide +kernel
theorem dMo_spell_121 : decode cMo_spell 121 = .ok (.if_icmp .ne 7, 3) := by decide +kernel
theorem dMo_spell_124 : decode cMo_spell 124 = .ok (.iconst 1, 1) := by decide +kernel
theorem dMo_spell_125 : decode cMo_spell 125 = .ok (.goto 4, 3) := by decide +kernel
theorem dMo_spell_128 : decode cMo_spell 128 = .ok (.iconst 0, 1) := by decide +kernel
theorem dMo_spell_129 : decode cMo_spell 129 = .ok (.istore_n 3, 1) := by decide +kernel
theorem dMo_spell_130 : decode cMo_spell 130 = .ok (.iload_n 3, 1) := by decide +kernel
theorem dMo_spell_131 : decode cMo_spell 131 = .ok (.ifCond .eq 25, 3) := by decide +kernel
theorem dMo_spell_134 : decode cMo_spell 134 = .ok (.aload_n 0, 1) := by decide +kernel
theorem dMo_spell_135 : decode cMo_spell 135 = .ok (.iload 4, 2) := by decide +kernel
theorem dMo_spell_137 : decode cMo_spell 137 = .ok (.invokevirtual 200, 3) := by decide +kernel
theorem dMo_spell_140 : decode cMo_spell 140 = .ok (.iinc 1 (-1), 3) := by decide +kernel
theorem dMo_spell_143 : decode cMo_spell 143 = .ok (.iload_n 1, 1) := by decide +kernel
theorem dMo_spell_144 : decode cMo_spell 144 = .ok (.ifCond .le 7, 3) := by decide +kernel
theorem dMo_spell_147 : decode cMo_spell 147 = .ok (.iconst 1, 1) := by decide +kernel
theorem dMo_spell_148 : decode cMo_spell 148 = .ok (.goto 4, 3) := by decide +kernel
theorem dMo_spell_151 : decode cMo_spell 151 = .ok (.iconst 0, 1) := by decide +kernel
theorem dMo_spell_152 : decode cMo_spell 152 = .ok (.istore_n 3, 1) := by decide +kernel
theorem dMo_spell_153 : decode cMo_spell 153 = .ok (.goto 27, 3) := by decide +kernel
theorem dMo_spell_156 : decode cMo_spell 156 = .ok (.aload_n 0, 1) := by decide +kernel
theorem dMo_spell_157 : decode cMo_spell 157 = .ok (.aload_n 0, 1) := by decide +kernel
theorem dMo_spell_158 : decode cMo_spell 158 = .ok (.getfield 13, 3) := by decide +kernel
theorem dMo_spell_161 : decode cMo_spell 161 = .ok (.iload 4, 2) := by decide +kernel
theorem dMo_spell_163 : decode cMo_spell 163 = .ok (.iaload, 1) := by decide +kernel
theorem dMo_spell_164 : decode cMo_spell 164 = .ok (.iconst 3, 1) := by decide +kernel
theorem dMo_spell_165 : decode cMo_spell 165 = .ok (.if_icmp .ne 8, 3) := by decide +kernel
theorem dMo_spell_168 : decode cMo_spell 168 = .ok (.bipush 43, 2) := by decide +kernel
theorem dMo_spell_170 : decode cMo_spell 170 = .ok (.goto 5, 3) := by decide +kernel
theorem dMo_spell_173 : decode cMo_spell 173 = .ok (.bipush 40, 2) := by decide +kernel
theorem dMo_spell_175 : decode cMo_spell 175 = .ok (.iload 4, 2) := by decide +kernel
theorem dMo_spell_177 : decode cMo_spell 177 = .ok (.invokevirtual 187, 3) := by decide +kernel
theorem dMo_spell_180 : decode cMo_spell 180 = .ok (.goto (-103), 3) := by decide +kernel
theorem dMo_spell_183 : decode cMo_spell 183 = .ok (.iinc 2 1, 3) := by decide +kernel
theorem dMo_spell_186 : decode cMo_spell 186 = .ok (.goto (-164), 3) := by decide +kernel
theorem dMo_spell_189 : decode cMo_spell 189 = .ok (.return_, 1) := by decide +kernel
def f_Mo_spell_J183  (v1 : Int32) (v2 : Int32) (σ : Mem) : Option ((Int32 × Int32 × Mem) ⊕ (Unit × Mem)) :=
  lt_ (v2 + 1) fun (x1 : Int32) =>
  some (.inl (v1, x1, σ))
def f_Mo_spell_J180  (v1 : Int32) (v2 : Int32) (v3 : Int32) (v4 : Int32) (σ : Mem) : Option ((Int32 × Int32 × Mem) ⊕ ((Int32 × Int32 × Mem) ⊕ (Unit × Mem))) :=
  some (.inl (v1, v3, σ))
def f_Mo_spell_J175  (v1 : Int32) (v2 : Int32) (v3 : Int32) (v4 : Int32) (u1 : Int32) (σ : Mem) : Option ((Int32 × Int32 × Mem) ⊕ ((Int32 × Int32 × Mem) ⊕ (Unit × Mem))) :=
  bn (f_Mo_put u1 v4 σ) fun (_ : Unit) (σ3 : Mem) =>
  f_Mo_spell_J180 v1 v2 v3 v4 σ3
def f_Mo_spell_J152  (v1 : Int32) (v2 : Int32) (v3 : Int32) (v4 : Int32) (u0 : Int32) (σ : Mem) : Option ((Int32 × Int32 × Mem) ⊕ ((Int32 × Int32 × Mem) ⊕ (Unit × Mem))) :=
  f_Mo_spell_J180 v1 v2 u0 v4 σ
def f_Mo_spell_J129  (v1 : Int32) (v2 : Int32) (v3 : Int32) (v4 : Int32) (u0 : Int32) (σ : Mem) : Option ((Int32 × Int32 × Mem) ⊕ ((Int32 × Int32 × Mem) ⊕ (Unit × Mem))) :=
  if u0 = 0 then (
  gd (inb v4 48) (
  if (σ.1 16 v4.toNatClampNeg) = (3 : Int32) then (
  f_Mo_spell_J175 v1 v2 u0 v4 (43 : Int32) σ)
  else (
  f_Mo_spell_J175 v1 v2 u0 v4 (40 : Int32) σ)))
  else (
  bn (f_Mo_closes v4 σ) fun (_ : Unit) (σ6 : Mem) =>
  lt_ (v1 + (-1)) fun (x7 : Int32) =>
  if x7 ≤ 0 then (
  f_Mo_spell_J152 x7 v2 u0 v4 (0 : Int32) σ6)
  else (
  f_Mo_spell_J152 x7 v2 u0 v4 (1 : Int32) σ6))
def f_Mo_spell_L77  (v2 : Int32) (v1 : Int32) (v3 : Int32) (σ : Mem) : Option ((Int32 × Int32 × Mem) ⊕ ((Int32 × Int32 × Mem) ⊕ (Unit × Mem))) :=
  if v3 = 0 then (
  inrM (f_Mo_spell_J183 v1 v2 σ))
  else (
  gd (inb (v1 - (1 : Int32)) 16) (
  lt_ (σ.1 30 (v1 - (1 : Int32)).toNatClampNeg) fun (x10 : Int32) =>
  gd (inb (v1 - (1 : Int32)) 16) (
  gd (inb (v1 - (1 : Int32)) 16) (lt_ (sI σ 31 (v1 - (1 : Int32)).toNatClampNeg ((σ.1 31 (v1 - (1 : Int32)).toNatClampNeg) + (1 : Int32))) fun (σ13 : Mem) =>
  gd (inb (v1 - (1 : Int32)) 16) (
  gd (inb x10 48) (
  bn (f_Mo_parts (σ13.1 16 x10.toNatClampNeg) σ13) fun (r18 : Int32) (σ17 : Mem) =>
  if (σ13.1 31 (v1 - (1 : Int32)).toNatClampNeg) = r18 then (
  f_Mo_spell_J129 v1 v2 v3 x10 (1 : Int32) σ17)
  else (
  f_Mo_spell_J129 v1 v2 v3 x10 (0 : Int32) σ17)))))))
def f_Mo_spell_J76  (v1 : Int32) (v2 : Int32) (u0 : Int32) (σ : Mem) : Option ((Int32 × Int32 × Mem) ⊕ (Unit × Mem)) :=
  loopF (fun (q : (Int32 × Int32 × Mem)) => f_Mo_spell_L77 v2 q.1 q.2.1 q.2.2) FU (v1, u0, σ)
def f_Mo_spell_L22   (v1 : Int32) (v2 : Int32) (σ : Mem) : Option ((Int32 × Int32 × Mem) ⊕ (Unit × Mem)) :=
  if (σ.1 15 0) ≤ v2 then (
  inrM (some ((), σ)))
  else (
  bn (f_Mo_opens v2 σ) fun (_ : Unit) (σ21 : Mem) =>
  gd (inb v2 48) (
  bn (f_Mo_parts (σ21.1 16 v2.toNatClampNeg) σ21) fun (r25 : Int32) (σ24 : Mem) =>
  if r25 ≤ 0 then (
  if v1 ≤ 0 then (
  f_Mo_spell_J76 v1 v2 (0 : Int32) σ24)
  else (
  f_Mo_spell_J76 v1 v2 (1 : Int32) σ24))
  else (
  gd (inb v1 16) (lt_ (sI σ24 30 v1.toNatClampNeg v2) fun (σ27 : Mem) =>
  gd (inb v1 16) (lt_ (sI σ27 31 v1.toNatClampNeg (0 : Int32)) fun (σ29 : Mem) =>
  lt_ (v1 + 1) fun (x30 : Int32) =>
  f_Mo_spell_J183 x30 v2 σ29)))))
def f_Mo_spell   (σ : Mem) : Option (Unit × Mem) :=
  if (σ.1 15 16) = 0 then (
  lt_ (sI σ 15 16 (1 : Int32)) fun (σ31 : Mem) =>
  lt_ (sI σ31 15 17 (0 : Int32)) fun (σ32 : Mem) =>
  lt_ (0 : Int32) fun (x33 : Int32) =>
  lt_ (0 : Int32) fun (x34 : Int32) =>
  loopF (fun (q : (Int32 × Int32 × Mem)) => f_Mo_spell_L22 q.1 q.2.1 q.2.2) FU (x33, x34, σ32))
  else (
  some ((), σ))
set_option maxHeartbeats 4000000 in
set_option maxRecDepth 100000 in
theorem c_Mo_spell (l : Launch) (g : Gw) (hg : wInj g) {σ σ0 : Mem} (h : f_Mo_spell σ = some ((), σ0)) : KV l yMo_spell cMo_spell 5 none 4 g [.ref (ad g 15)] σ σ0 := by
  refine q_met g hg (own := "TermBenchModel") rfl rfl (Nat.le_of_ble_eq_true rfl) (fun p e s m args below meth c R Q cx hRk hr hQ H locs ls hP hS hl => ?_)
  have hx := cx.1
  have hb := cx.2.1
  have hown := cx.2.2.2.1
  have hts := cx.2.2.2.2.1
  have hl : lv_has ls 5 [(0, .ref (ad g 15))] := hl
  unfold f_Mo_spell at h
  refine lv_aload_n hx hb dMo_spell_0 rfl (lv_at hl 0 rfl) ?_
  refine g_Mo_spelled cx hP  t_546 dMo_spell_1 ?_
  refine lv_if_eq (tgt := 8) hx hb dMo_spell_4 (by decide) (fun hc => ?_) (fun hc => ?_)
  · replace h := if_t h hc
    refine lv_aload_n hx hb dMo_spell_8 rfl (lv_at hl 0 rfl) ?_
    refine lv_iconst (v := 1) hx hb dMo_spell_9 (by decide) ?_
    obtain ⟨σ31, eσ31, h⟩ := lt_some h
    refine p_Mo_spelled cx hP hS t_546 dMo_spell_10 rfl rfl eσ31 (fun H locs hP hS => ?_)
    refine lv_aload_n hx hb dMo_spell_13 rfl (lv_at hl 0 rfl) ?_
    refine lv_iconst (v := 0) hx hb dMo_spell_14 (by decide) ?_
    obtain ⟨σ32, eσ32, h⟩ := lt_some h
    refine p_Mo_length cx hP hS t_547 dMo_spell_15 eσ32 (fun H locs hP hS => ?_)
    refine lv_iconst (v := 0) hx hb dMo_spell_18 (by decide) ?_
    obtain ⟨x33, ex33, h⟩ := lt_some h
    refine q_nmi ex33 ?_
    refine lv_istore_n (lv' := [(1, .int x33), (0, .ref (ad g 15))]) hx hb dMo_spell_19 rfl hl (Nat.le_of_ble_eq_true rfl) rfl (fun ls hl => ?_)
    refine lv_iconst (v := 0) hx hb dMo_spell_20 (by decide) ?_
    obtain ⟨x34, ex34, h⟩ := lt_some h
    refine q_nmi ex34 ?_
    refine lv_istore_n (lv' := [(2, .int x34), (1, .int x33), (0, .ref (ad g 15))]) hx hb dMo_spell_21 rfl hl (Nat.le_of_ble_eq_true rfl) rfl (fun ls hl => ?_)
    have L22 : ∀ (n : Nat) (v1 : Int32) (v2 : Int32) (σ : Mem), loopF (fun (q : (Int32 × Int32 × Mem)) => f_Mo_spell_L22 q.1 q.2.1 q.2.2) n (v1, v2, σ) = some ((), σ0) → ∀ (H : Heap) (locs : List Loc) (ls : Array Slot), lv_has ls 5 [(0, .ref (ad g 15)), (1, .int v1), (2, .int v2)] → Wd g σ H → va_S (wA g) s.heap H locs → W p l e R s m args below meth c H locs 0 0 Q (F0 m 22 ls []) := by
      intro n
      induction n with
      | zero => intro v1 v2 σ h; exact (loopF_zero h).elim
      | succ n ih22 =>
        intro v1 v2 σ h H locs ls hl hP hS
        obtain ⟨o22, h, K22, E22⟩ := loopF_succ h
        have h : f_Mo_spell_L22 v1 v2 σ = some o22 := h
        have J183 : ∀ (v1 : Int32) (v2 : Int32) (σ : Mem), f_Mo_spell_J183 v1 v2 σ = some o22 → ∀ (H : Heap) (locs : List Loc) (ls : Array Slot), lv_has ls 5 [(0, .ref (ad g 15)), (1, .int v1), (2, .int v2)] → Wd g σ H → va_S (wA g) s.heap H locs → W p l e R s m args below meth c H locs 0 0 Q (F0 m 183 ls []) := by
          intro v1 v2 σ h H locs ls hl hP hS
          unfold f_Mo_spell_J183 at h
          obtain ⟨x1, ex1, h⟩ := lt_some h
          refine lv_iinc (lv' := [(2, .int x1), (0, .ref (ad g 15)), (1, .int v1)]) hx hb dMo_spell_183 hl (k := 2) rfl (q_inc ex1 (by decide)) (Nat.le_of_ble_eq_true rfl) rfl (fun ls hl => ?_)
          refine lv_goto (tgt := 22) hx hb dMo_spell_186 (by decide) ?_
          exact ih22 _ _ _ (K22 _ (Option.some.inj h).symm) _ _ _ (lv_sub hl [1, 2, 0] rfl) hP hS
        have J76 : ∀ (v1 : Int32) (v2 : Int32) (u0 : Int32) (σ : Mem), f_Mo_spell_J76 v1 v2 u0 σ = some o22 → ∀ (H : Heap) (locs : List Loc) (ls : Array Slot), lv_has ls 5 [(0, .ref (ad g 15)), (1, .int v1), (2, .int v2)] → Wd g σ H → va_S (wA g) s.heap H locs → W p l e R s m args below meth c H locs 0 0 Q (F0 m 76 ls [.int u0]) := by
          intro v1 v2 u0 σ h H locs ls hl hP hS
          unfold f_Mo_spell_J76 at h
          refine lv_istore_n (lv' := [(3, .int u0), (0, .ref (ad g 15)), (1, .int v1), (2, .int v2)]) hx hb dMo_spell_76 rfl hl (Nat.le_of_ble_eq_true rfl) rfl (fun ls hl => ?_)
          have L77 : ∀ (n : Nat) (v1 : Int32) (v2 : Int32) (v3 : Int32) (σ : Mem), loopF (fun (q : (Int32 × Int32 × Mem)) => f_Mo_spell_L77 v2 q.1 q.2.1 q.2.2) n (v1, v3, σ) = some o22 → ∀ (H : Heap) (locs : List Loc) (ls : Array Slot), lv_has ls 5 [(0, .ref (ad g 15)), (1, .int v1), (2, .int v2), (3, .int v3)] → Wd g σ H → va_S (wA g) s.heap H locs → W p l e R s m args below meth c H locs 0 0 Q (F0 m 77 ls []) := by
            intro n
            induction n with
            | zero => intro v1 v2 v3 σ h; exact (loopF_zero h).elim
            | succ n ih77 =>
              intro v1 v2 v3 σ h H locs ls hl hP hS
              obtain ⟨o77, h, K77, E77⟩ := loopF_succ h
              have h : f_Mo_spell_L77 v2 v1 v3 σ = some o77 := h
              have J180 : ∀ (v1 : Int32) (v3 : Int32) (v4 : Int32) (σ : Mem), f_Mo_spell_J180 v1 v2 v3 v4 σ = some o77 → ∀ (H : Heap) (locs : List Loc) (ls : Array Slot), lv_has ls 5 [(0, .ref (ad g 15)), (1, .int v1), (2, .int v2), (3, .int v3), (4, .int v4)] → Wd g σ H → va_S (wA g) s.heap H locs → W p l e R s m args below meth c H locs 0 0 Q (F0 m 180 ls []) := by
                intro v1 v3 v4 σ h H locs ls hl hP hS
                unfold f_Mo_spell_J180 at h
                refine lv_goto (tgt := 77) hx hb dMo_spell_180 (by decide) ?_
                exact ih77 _ _ _ _ (K77 _ (Option.some.inj h).symm) _ _ _ (lv_sub hl [0, 1, 2, 3] rfl) hP hS
              have J175 : ∀ (v1 : Int32) (v3 : Int32) (v4 : Int32) (u1 : Int32) (σ : Mem), f_Mo_spell_J175 v1 v2 v3 v4 u1 σ = some o77 → ∀ (H : Heap) (locs : List Loc) (ls : Array Slot), lv_has ls 5 [(0, .ref (ad g 15)), (1, .int v1), (2, .int v2), (3, .int v3), (4, .int v4)] → Wd g σ H → va_S (wA g) s.heap H locs → W p l e R s m args below meth c H locs 0 0 Q (F0 m 175 ls [.int u1, .ref (ad g 15)]) := by
                intro v1 v3 v4 u1 σ h H locs ls hl hP hS
                unfold f_Mo_spell_J175 at h
                refine lv_iload hx hb dMo_spell_175 (lv_at hl 4 rfl) ?_
                obtain ⟨rh2, σ3, h2, h⟩ := bn_some h
                refine q_cVv (rest := []) (As := [.int u1, .int v4]) cx hP hS hRk (c_Mo_put l g hg h2) Y_Mo_put V_Mo_put t_782 (by decide) (by decide) (e_15 g _ _) rfl rfl hl.1 rfl (Nat.le_of_ble_eq_true rfl) dMo_spell_177 (fun H locs hP hS => ?_)
                exact J180 _ _ _ _ h _ _ _ (lv_sub hl [0, 1, 2, 3, 4] rfl) hP hS
              have J152 : ∀ (v1 : Int32) (v3 : Int32) (v4 : Int32) (u0 : Int32) (σ : Mem), f_Mo_spell_J152 v1 v2 v3 v4 u0 σ = some o77 → ∀ (H : Heap) (locs : List Loc) (ls : Array Slot), lv_has ls 5 [(0, .ref (ad g 15)), (1, .int v1), (2, .int v2), (3, .int v3), (4, .int v4)] → Wd g σ H → va_S (wA g) s.heap H locs → W p l e R s m args below meth c H locs 0 0 Q (F0 m 152 ls [.int u0]) := by
                intro v1 v3 v4 u0 σ h H locs ls hl hP hS
                unfold f_Mo_spell_J152 at h
                refine lv_istore_n (lv' := [(3, .int u0), (0, .ref (ad g 15)), (1, .int v1), (2, .int v2), (4, .int v4)]) hx hb dMo_spell_152 rfl hl (Nat.le_of_ble_eq_true rfl) rfl (fun ls hl => ?_)
                refine lv_goto (tgt := 180) hx hb dMo_spell_153 (by decide) ?_
                exact J180 _ _ _ _ h _ _ _ (lv_sub hl [1, 2, 3, 0, 4] rfl) hP hS
              have J129 : ∀ (v1 : Int32) (v3 : Int32) (v4 : Int32) (u0 : Int32) (σ : Mem), f_Mo_spell_J129 v1 v2 v3 v4 u0 σ = some o77 → ∀ (H : Heap) (locs : List Loc) (ls : Array Slot), lv_has ls 5 [(0, .ref (ad g 15)), (1, .int v1), (2, .int v2), (3, .int v3), (4, .int v4)] → Wd g σ H → va_S (wA g) s.heap H locs → W p l e R s m args below meth c H locs 0 0 Q (F0 m 129 ls [.int u0]) := by
                intro v1 v3 v4 u0 σ h H locs ls hl hP hS
                unfold f_Mo_spell_J129 at h
                refine lv_istore_n (lv' := [(3, .int u0), (0, .ref (ad g 15)), (1, .int v1), (2, .int v2), (4, .int v4)]) hx hb dMo_spell_129 rfl hl (Nat.le_of_ble_eq_true rfl) rfl (fun ls hl => ?_)
                refine lv_iload_n hx hb dMo_spell_130 rfl (lv_at hl 0 rfl) ?_
                refine lv_if_eq (tgt := 156) hx hb dMo_spell_131 (by decide) (fun hc => ?_) (fun hc => ?_)
                · replace h := if_t h hc
                  refine lv_aload_n hx hb dMo_spell_156 rfl (lv_at hl 1 rfl) ?_
                  refine lv_aload_n hx hb dMo_spell_157 rfl (lv_at hl 1 rfl) ?_
                  refine g_Mo_kinds cx hP  t_532 dMo_spell_158 ?_
                  refine lv_iload hx hb dMo_spell_161 (lv_at hl 4 rfl) ?_
                  obtain ⟨b4, h⟩ := gd_some h
                  refine q_iald cx hP (by decide) (e_16 g) b4 dMo_spell_163 ?_
                  refine lv_iconst (v := 3) hx hb dMo_spell_164 (by decide) ?_
                  refine lv_icmp_ne (tgt := 173) hx hb dMo_spell_165 (by decide) (fun hc => ?_) (fun hc => ?_)
                  · replace h := if_f h hc
                    refine lv_bipush (v := 40) hx hb dMo_spell_173 (by decide) ?_
                    exact J175 _ _ _ _ _ h _ _ _ (lv_sub hl [1, 2, 3, 0, 4] rfl) hP hS
                  · replace h := if_t h hc
                    refine lv_bipush (v := 43) hx hb dMo_spell_168 (by decide) ?_
                    refine lv_goto (tgt := 175) hx hb dMo_spell_170 (by decide) ?_
                    exact J175 _ _ _ _ _ h _ _ _ (lv_sub hl [1, 2, 3, 0, 4] rfl) hP hS
                · replace h := if_f h hc
                  refine lv_aload_n hx hb dMo_spell_134 rfl (lv_at hl 1 rfl) ?_
                  refine lv_iload hx hb dMo_spell_135 (lv_at hl 4 rfl) ?_
                  obtain ⟨rh5, σ6, h5, h⟩ := bn_some h
                  refine q_cVv (rest := []) (As := [.int v4]) cx hP hS hRk (c_Mo_closes l g hg h5) Y_Mo_closes V_Mo_closes t_794 (by decide) (by decide) (e_15 g _ _) rfl rfl hl.1 rfl (Nat.le_of_ble_eq_true rfl) dMo_spell_137 (fun H locs hP hS => ?_)
                  obtain ⟨x7, ex7, h⟩ := lt_some h
                  refine lv_iinc (lv' := [(1, .int x7), (3, .int u0), (0, .ref (ad g 15)), (2, .int v2), (4, .int v4)]) hx hb dMo_spell_140 hl (k := 2) rfl (q_inc ex7 (by decide)) (Nat.le_of_ble_eq_true rfl) rfl (fun ls hl => ?_)
                  refine lv_iload_n hx hb dMo_spell_143 rfl (lv_at hl 0 rfl) ?_
                  refine lv_if_le (tgt := 151) hx hb dMo_spell_144 (by decide) (fun hc => ?_) (fun hc => ?_)
                  · replace h := if_t h hc
                    refine lv_iconst (v := 0) hx hb dMo_spell_151 (by decide) ?_
                    exact J152 _ _ _ _ _ h _ _ _ (lv_sub hl [2, 0, 3, 1, 4] rfl) hP hS
                  · replace h := if_f h hc
                    refine lv_iconst (v := 1) hx hb dMo_spell_147 (by decide) ?_
                    refine lv_goto (tgt := 152) hx hb dMo_spell_148 (by decide) ?_
                    exact J152 _ _ _ _ _ h _ _ _ (lv_sub hl [2, 0, 3, 1, 4] rfl) hP hS
              unfold f_Mo_spell_L77 at h
              refine lv_iload_n hx hb dMo_spell_77 rfl (lv_at hl 3 rfl) ?_
              refine lv_if_eq (tgt := 183) hx hb dMo_spell_78 (by decide) (fun hc => ?_) (fun hc => ?_)
              · replace h := if_t h hc
                obtain ⟨z8, h, ez8⟩ := inrM_some h
                rw [E77 z8 ez8] at h
                exact J183 _ _ _ h _ _ _ (lv_sub hl [0, 1, 2] rfl) hP hS
              · replace h := if_f h hc
                refine lv_aload_n hx hb dMo_spell_81 rfl (lv_at hl 0 rfl) ?_
                refine g_Mo_inside cx hP  t_551 dMo_spell_82 ?_
                refine lv_iload_n hx hb dMo_spell_85 rfl (lv_at hl 1 rfl) ?_
                refine lv_iconst (v := 1) hx hb dMo_spell_86 (by decide) ?_
                refine lv_isub hx hb dMo_spell_87 ?_
                obtain ⟨b9, h⟩ := gd_some h
                refine q_iald cx hP (by decide) (e_30 g) b9 dMo_spell_88 ?_
                obtain ⟨x10, ex10, h⟩ := lt_some h
                refine q_nmi ex10 ?_
                refine lv_istore (lv' := [(4, .int x10), (0, .ref (ad g 15)), (1, .int v1), (2, .int v2), (3, .int v3)]) hx hb dMo_spell_89 hl (Nat.le_of_ble_eq_true rfl) rfl (fun ls hl => ?_)
                refine lv_aload_n hx hb dMo_spell_91 rfl (lv_at hl 1 rfl) ?_
                refine g_Mo_passed cx hP  t_552 dMo_spell_92 ?_
                refine lv_iload_n hx hb dMo_spell_95 rfl (lv_at hl 2 rfl) ?_
                refine lv_iconst (v := 1) hx hb dMo_spell_96 (by decide) ?_
                refine lv_isub hx hb dMo_spell_97 ?_
                refine lv_dup2_11 hx hb dMo_spell_98 rfl rfl ?_
                obtain ⟨b11, h⟩ := gd_some h
                refine q_iald cx hP (by decide) (e_31 g) b11 dMo_spell_99 ?_
                refine lv_iconst (v := 1) hx hb dMo_spell_100 (by decide) ?_
                refine lv_iadd hx hb dMo_spell_101 ?_
                obtain ⟨b12, h⟩ := gd_some h
                obtain ⟨σ13, eσ13, h⟩ := lt_some h
                refine q_iast cx hP hS (by decide) (e_31 g) b12 dMo_spell_102 eσ13 (fun H locs hP hS => ?_)
                refine lv_aload_n hx hb dMo_spell_103 rfl (lv_at hl 1 rfl) ?_
                refine g_Mo_passed cx hP  t_552 dMo_spell_104 ?_
                refine lv_iload_n hx hb dMo_spell_107 rfl (lv_at hl 2 rfl) ?_
                refine lv_iconst (v := 1) hx hb dMo_spell_108 (by decide) ?_
                refine lv_isub hx hb dMo_spell_109 ?_
                obtain ⟨b14, h⟩ := gd_some h
                refine q_iald cx hP (by decide) (e_31 g) b14 dMo_spell_110 ?_
                refine lv_aload_n hx hb dMo_spell_111 rfl (lv_at hl 1 rfl) ?_
                refine g_Mo_kinds cx hP  t_532 dMo_spell_112 ?_
                refine lv_iload hx hb dMo_spell_115 (lv_at hl 0 rfl) ?_
                obtain ⟨b15, h⟩ := gd_some h
                refine q_iald cx hP (by decide) (e_16 g) b15 dMo_spell_117 ?_
                obtain ⟨r18, σ17, h16, h⟩ := bn_some h
                refine q_cSi (rest := [.int (σ13.1 31 (v1 - (1 : Int32)).toNatClampNeg)]) (As := [.int (σ13.1 16 x10.toNatClampNeg)]) cx hP hS hRk (c_Mo_parts l g hg h16) Y_Mo_parts S_Mo_parts t_693 (by decide) rfl hl.1 rfl (Nat.le_of_ble_eq_true rfl) dMo_spell_118 (fun H locs hP hS => ?_)
                refine lv_icmp_ne (tgt := 128) hx hb dMo_spell_121 (by decide) (fun hc => ?_) (fun hc => ?_)
                · replace h := if_f h hc
                  refine lv_iconst (v := 0) hx hb dMo_spell_128 (by decide) ?_
                  exact J129 _ _ _ _ _ h _ _ _ (lv_sub hl [1, 2, 3, 4, 0] rfl) hP hS
                · replace h := if_t h hc
                  refine lv_iconst (v := 1) hx hb dMo_spell_124 (by decide) ?_
                  refine lv_goto (tgt := 129) hx hb dMo_spell_125 (by decide) ?_
                  exact J129 _ _ _ _ _ h _ _ _ (lv_sub hl [1, 2, 3, 4, 0] rfl) hP hS
          exact L77 _ _ _ _ _ h _ _ _ (lv_sub hl [1, 2, 3, 0] rfl) hP hS
        unfold f_Mo_spell_L22 at h
        refine lv_iload_n hx hb dMo_spell_22 rfl (lv_at hl 2 rfl) ?_
        refine lv_aload_n hx hb dMo_spell_23 rfl (lv_at hl 0 rfl) ?_
        refine g_Mo_count cx hP  t_530 dMo_spell_24 ?_
        refine lv_icmp_ge (tgt := 189) hx hb dMo_spell_27 (by decide) (fun hc => ?_) (fun hc => ?_)
        · replace h := if_t h hc
          obtain ⟨z19, h, ez19⟩ := inrM_some h
          rw [E22 z19 ez19] at h
          exact q_rv cx hr hP hS hQ h dMo_spell_189
        · replace h := if_f h hc
          refine lv_aload_n hx hb dMo_spell_30 rfl (lv_at hl 0 rfl) ?_
          refine lv_iload_n hx hb dMo_spell_31 rfl (lv_at hl 2 rfl) ?_
          obtain ⟨rh20, σ21, h20, h⟩ := bn_some h
          refine q_cVv (rest := []) (As := [.int v2]) cx hP hS hRk (c_Mo_opens l g hg h20) Y_Mo_opens V_Mo_opens t_778 (by decide) (by decide) (e_15 g _ _) rfl rfl hl.1 rfl (Nat.le_of_ble_eq_true rfl) dMo_spell_32 (fun H locs hP hS => ?_)
          refine lv_aload_n hx hb dMo_spell_35 rfl (lv_at hl 0 rfl) ?_
          refine g_Mo_kinds cx hP  t_532 dMo_spell_36 ?_
          refine lv_iload_n hx hb dMo_spell_39 rfl (lv_at hl 2 rfl) ?_
          obtain ⟨b22, h⟩ := gd_some h
          refine q_iald cx hP (by decide) (e_16 g) b22 dMo_spell_40 ?_
          obtain ⟨r25, σ24, h23, h⟩ := bn_some h
          refine q_cSi (rest := []) (As := [.int (σ21.1 16 v2.toNatClampNeg)]) cx hP hS hRk (c_Mo_parts l g hg h23) Y_Mo_parts S_Mo_parts t_693 (by decide) rfl hl.1 rfl (Nat.le_of_ble_eq_true rfl) dMo_spell_41 (fun H locs hP hS => ?_)
          refine lv_if_le (tgt := 67) hx hb dMo_spell_44 (by decide) (fun hc => ?_) (fun hc => ?_)
          · replace h := if_t h hc
            refine lv_iload_n hx hb dMo_spell_67 rfl (lv_at hl 1 rfl) ?_
            refine lv_if_le (tgt := 75) hx hb dMo_spell_68 (by decide) (fun hc => ?_) (fun hc => ?_)
            · replace h := if_t h hc
              refine lv_iconst (v := 0) hx hb dMo_spell_75 (by decide) ?_
              exact J76 _ _ _ _ h _ _ _ (lv_sub hl [0, 1, 2] rfl) hP hS
            · replace h := if_f h hc
              refine lv_iconst (v := 1) hx hb dMo_spell_71 (by decide) ?_
              refine lv_goto (tgt := 76) hx hb dMo_spell_72 (by decide) ?_
              exact J76 _ _ _ _ h _ _ _ (lv_sub hl [0, 1, 2] rfl) hP hS
          · replace h := if_f h hc
            refine lv_aload_n hx hb dMo_spell_47 rfl (lv_at hl 0 rfl) ?_
            refine g_Mo_inside cx hP  t_551 dMo_spell_48 ?_
            refine lv_iload_n hx hb dMo_spell_51 rfl (lv_at hl 1 rfl) ?_
            refine lv_iload_n hx hb dMo_spell_52 rfl (lv_at hl 2 rfl) ?_
            obtain ⟨b26, h⟩ := gd_some h
            obtain ⟨σ27, eσ27, h⟩ := lt_some h
            refine q_iast cx hP hS (by decide) (e_30 g) b26 dMo_spell_53 eσ27 (fun H locs hP hS => ?_)
            refine lv_aload_n hx hb dMo_spell_54 rfl (lv_at hl 0 rfl) ?_
            refine g_Mo_passed cx hP  t_552 dMo_spell_55 ?_
            refine lv_iload_n hx hb dMo_spell_58 rfl (lv_at hl 1 rfl) ?_
            refine lv_iconst (v := 0) hx hb dMo_spell_59 (by decide) ?_
            obtain ⟨b28, h⟩ := gd_some h
            obtain ⟨σ29, eσ29, h⟩ := lt_some h
            refine q_iast cx hP hS (by decide) (e_31 g) b28 dMo_spell_60 eσ29 (fun H locs hP hS => ?_)
            obtain ⟨x30, ex30, h⟩ := lt_some h
            refine lv_iinc (lv' := [(1, .int x30), (0, .ref (ad g 15)), (2, .int v2)]) hx hb dMo_spell_61 hl (k := 1) rfl (q_inc ex30 (by decide)) (Nat.le_of_ble_eq_true rfl) rfl (fun ls hl => ?_)
            refine lv_goto (tgt := 183) hx hb dMo_spell_64 (by decide) ?_
            exact J183 _ _ _ h _ _ _ (lv_sub hl [1, 0, 2] rfl) hP hS
    exact L22 _ _ _ _ h _ _ _ (lv_sub hl [2, 1, 0] rfl) hP hS
  · replace h := if_f h hc
    exact q_rv cx hr hP hS hQ h dMo_spell_7
theorem dMo_hole_0 : decode cMo_hole 0 = .ok (.aload_n 0, 1) := by decide +kernel
theorem dMo_hole_1 : decode cMo_hole 1 = .ok (.invokevirtual 181, 3) := by decide +kernel
theorem dMo_hole_4 : decode cMo_hole 4 = .ok (.iconst (-1), 1) := by decide +kernel
theorem dMo_hole_5 : decode cMo_hole 5 = .ok (.istore_n 1, 1) := by decide +kernel
theorem dMo_hole_6 : decode cMo_hole 6 = .ok (.iconst (-1), 1) := by decide +kernel
theorem dMo_hole_7 : decode cMo_hole 7 = .ok (.istore_n 2, 1) := by decide +kernel
theorem dMo_hole_8 : decode cMo_hole 8 = .ok (.iconst 0, 1) := by decide +kernel
theorem dMo_hole_9 : decode cMo_hole 9 = .ok (.istore_n 3, 1) := by decide +kernel
theorem dMo_hole_10 : decode cMo_hole 10 = .ok (.iload_n 3, 1) := by decide +kernel
theorem dMo_hole_11 : decode cMo_hole 11 = .ok (.aload_n 0, 1) := by decide +kernel
theorem dMo_hole_12 : decode cMo_hole 12 = .ok (.getfield 7, 3) := by decide +kernel
theorem dMo_hole_15 : decode cMo_hole 15 = .ok (.if_icmp .ge 73, 3) := by decide +kernel
theorem dMo_hole_18 : decode cMo_hole 18 = .ok (.aload_n 0, 1) := by decide +kernel
theorem dMo_hole_19 : decode cMo_hole 19 = .ok (.getfield 13, 3) := by decide +kernel
theorem dMo_hole_22 : decode cMo_hole 22 = .ok (.iload_n 3, 1) := by decide +kernel
theorem dMo_hole_23 : decode cMo_hole 23 = .ok (.iaload, 1) := by decide +kernel
theorem dMo_hole_24 : decode cMo_hole 24 = .ok (.ifCond .ne 7, 3) := by decide +kernel
theorem dMo_hole_27 : decode cMo_hole 27 = .ok (.iconst 1, 1) := by decide +kernel
theorem dMo_hole_28 : decode cMo_hole 28 = .ok (.goto 4, 3) := by decide +kernel
theorem dMo_hole_31 : decode cMo_hole 31 = .ok (.iconst 0, 1) := by decide +kernel
theorem dMo_hole_32 : decode cMo_hole 32 = .ok (.istore 4, 2) := by decide +kernel
theorem dMo_hole_34 : decode cMo_hole 34 = .ok (.iload 4, 2) := by decide +kernel
theorem dMo_hole_36 : decode cMo_hole 36 = .ok (.ifCond .eq 11, 3) := by decide +kernel
theorem dMo_hole_39 : decode cMo_hole 39 = .ok (.iload_n 1, 1) := by decide +kernel
theorem dMo_hole_40 : decode cMo_hole 40 = .ok (.ifCond .ge 7, 3) := by decide +kernel
theorem dMo_hole_43 : decode cMo_hole 43 = .ok (.iload_n 3, 1) := by decide +kernel
theorem dMo_hole_44 : decode cMo_hole 44 = .ok (.goto 4, 3) := by decide +kernel
theorem dMo_hole_47 : decode cMo_hole 47 = .ok (.iload_n 1, 1) := by decide +kernel
theorem dMo_hole_48 : decode cMo_hole 48 = .ok (.istore_n 1, 1) := by decide +kernel
theorem dMo_hole_49 : decode cMo_hole 49 = .ok (.iload 4, 2) := by decide +kernel
theorem dMo_hole_51 : decode cMo_hole 51 = .ok (.ifCond .eq 29, 3) := by decide +kernel
theorem dMo_hole_54 : decode cMo_hole 54 = .ok (.iload_n 2, 1) := by decide +kernel
theorem dMo_hole_55 : decode cMo_hole 55 = .ok (.ifCond .ge 25, 3) := by decide +kernel
theorem dMo_hole_58 : decode cMo_hole 58 = .ok (.aload_n 0, 1) := by decide +kernel
theorem dMo_hole_59 : decode cMo_hole 59 = .ok (.getfield 54, 3) := by decide +kernel
theorem dMo_hole_62 : decode cMo_hole 62 = .ok (.iload_n 3, 1) := by decide +kernel
theorem dMo_hole_63 : decode cMo_hole 63 = .ok (.iaload, 1) := by decide +kernel
theorem dMo_hole_64 : decode cMo_hole 64 = .ok (.aload_n 0, 1) := by decide +kernel
theorem dMo_hole_65 : decode cMo_hole 65 = .ok (.getfield 54, 3) := by decide +kernel
theorem dMo_hole_68 : decode cMo_hole 68 = .ok (.aload_n 0, 1) := by decide +kernel
theorem dMo_hole_69 : decode cMo_hole 69 = .ok (.getfield 123, 3) := by decide +kernel
theorem dMo_hole_72 : decode cMo_hole 72 = .ok (.iaload, 1) := by decide +kernel
theorem dMo_hole_73 : decode cMo_hole 73 = .ok (.if_icmp .le 7, 3) := by decide +kernel
theorem dMo_hole_76 : decode cMo_hole 76 = .ok (.iload_n 3, 1) := by decide +kernel
theorem dMo_hole_77 : decode cMo_hole 77 = .ok (.goto 4, 3) := by decide +kernel
theorem dMo_hole_80 : decode cMo_hole 80 = .ok (.iload_n 2, 1) := by decide +kernel
theorem dMo_hole_81 : decode cMo_hole 81 = .ok (.istore_n 2, 1) := by decide +kernel
theorem dMo_hole_82 : decode cMo_hole 82 = .ok (.iinc 3 1, 3) := by decide +kernel
theorem dMo_hole_85 : decode cMo_hole 85 = .ok (.goto (-75), 3) := by decide +kernel
theorem dMo_hole_88 : decode cMo_hole 88 = .ok (.iload_n 1, 1) := by decide +kernel
theorem dMo_hole_89 : decode cMo_hole 89 = .ok (.ifCond .ge 5, 3) := by decide +kernel
theorem dMo_hole_92 : decode cMo_hole 92 = .ok (.iconst 0, 1) := by decide +kernel
theorem dMo_hole_93 : decode cMo_hole 93 = .ok (.ireturn, 1) := by decide +kernel
theorem dMo_hole_94 : decode cMo_hole 94 = .ok (.aload_n 0, 1) := by decide +kernel
theorem dMo_hole_95 : decode cMo_hole 95 = .ok (.iload_n 2, 1) := by decide +kernel
theorem dMo_hole_96 : decode cMo_hole 96 = .ok (.ifCond .ge 7, 3) := by decide +kernel
theorem dMo_hole_99 : decode cMo_hole 99 = .ok (.iload_n 1, 1) := by decide +kernel
theorem dMo_hole_100 : decode cMo_hole 100 = .ok (.goto 4, 3) := by decide +kernel
theorem dMo_hole_103 : decode cMo_hole 103 = .ok (.iload_n 2, 1) := by decide +kernel
theorem dMo_hole_104 : decode cMo_hole 104 = .ok (.putfield 123, 3) := by decide +kernel
theorem dMo_hole_107 : decode cMo_hole 107 = .ok (.iconst 1, 1) := by decide +kernel
theorem dMo_hole_108 : decode cMo_hole 108 = .ok (.ireturn, 1) := by decide +kernel
def f_Mo_hole_J104  (v1 : Int32) (v2 : Int32) (v3 : Int32) (u1 : Int32) (σ : Mem) : Option (Int32 × Mem) :=
  lt_ (sI σ 15 1 u1) fun (σ1 : Mem) =>
  some ((1 : Int32), σ1)
def f_Mo_hole_J81  (v1 : Int32) (v2 : Int32) (v3 : Int32) (v4 : Int32) (u0 : Int32) (σ : Mem) : Option ((Int32 × Int32 × Int32 × Mem) ⊕ (Int32 × Mem)) :=
  lt_ (v3 + 1) fun (x2 : Int32) =>
  some (.inl (v1, u0, x2, σ))
def f_Mo_hole_J80  (v1 : Int32) (v2 : Int32) (v3 : Int32) (v4 : Int32) (σ : Mem) : Option ((Int32 × Int32 × Int32 × Mem) ⊕ (Int32 × Mem)) :=
  f_Mo_hole_J81 v1 v2 v3 v4 v2 σ
def f_Mo_hole_J48  (v1 : Int32) (v2 : Int32) (v3 : Int32) (v4 : Int32) (u0 : Int32) (σ : Mem) : Option ((Int32 × Int32 × Int32 × Mem) ⊕ (Int32 × Mem)) :=
  if v4 = 0 then (
  f_Mo_hole_J80 u0 v2 v3 v4 σ)
  else (
  if 0 ≤ v2 then (
  f_Mo_hole_J80 u0 v2 v3 v4 σ)
  else (
  gd (inb v3 48) (
  gd (inb (σ.1 15 1) 48) (
  if (σ.1 29 v3.toNatClampNeg) ≤ (σ.1 29 (σ.1 15 1).toNatClampNeg) then (
  f_Mo_hole_J80 u0 v2 v3 v4 σ)
  else (
  f_Mo_hole_J81 u0 v2 v3 v4 v3 σ)))))
def f_Mo_hole_J47  (v1 : Int32) (v2 : Int32) (v3 : Int32) (v4 : Int32) (σ : Mem) : Option ((Int32 × Int32 × Int32 × Mem) ⊕ (Int32 × Mem)) :=
  f_Mo_hole_J48 v1 v2 v3 v4 v1 σ
def f_Mo_hole_J32  (v1 : Int32) (v2 : Int32) (v3 : Int32) (u0 : Int32) (σ : Mem) : Option ((Int32 × Int32 × Int32 × Mem) ⊕ (Int32 × Mem)) :=
  if u0 = 0 then (
  f_Mo_hole_J47 v1 v2 v3 u0 σ)
  else (
  if 0 ≤ v1 then (
  f_Mo_hole_J47 v1 v2 v3 u0 σ)
  else (
  f_Mo_hole_J48 v1 v2 v3 u0 v3 σ))
def f_Mo_hole_L10   (v1 : Int32) (v2 : Int32) (v3 : Int32) (σ : Mem) : Option ((Int32 × Int32 × Int32 × Mem) ⊕ (Int32 × Mem)) :=
  if (σ.1 15 0) ≤ v3 then (
  inrM (if 0 ≤ v1 then (
  if 0 ≤ v2 then (
  f_Mo_hole_J104 v1 v2 v3 v2 σ)
  else (
  f_Mo_hole_J104 v1 v2 v3 v1 σ))
  else (
  some ((0 : Int32), σ))))
  else (
  gd (inb v3 48) (
  if (σ.1 16 v3.toNatClampNeg) = 0 then (
  f_Mo_hole_J32 v1 v2 v3 (1 : Int32) σ)
  else (
  f_Mo_hole_J32 v1 v2 v3 (0 : Int32) σ)))
def f_Mo_hole   (σ : Mem) : Option (Int32 × Mem) :=
  bn (f_Mo_spell σ) fun (_ : Unit) (σ8 : Mem) =>
  lt_ ((-1) : Int32) fun (x9 : Int32) =>
  lt_ ((-1) : Int32) fun (x10 : Int32) =>
  lt_ (0 : Int32) fun (x11 : Int32) =>
  loopF (fun (q : (Int32 × Int32 × Int32 × Mem)) => f_Mo_hole_L10 q.1 q.2.1 q.2.2.1 q.2.2.2) FU (x9, x10, x11, σ8)
set_option maxHeartbeats 4000000 in
set_option maxRecDepth 100000 in
theorem c_Mo_hole (l : Launch) (g : Gw) (hg : wInj g) {r0 : Int32} {σ σ0 : Mem} (h : f_Mo_hole σ = some (r0, σ0)) : KI l yMo_hole cMo_hole 5 (some .boolean) 5 g [.ref (ad g 15)] σ r0 σ0 := by
  refine q_met g hg (own := "TermBenchModel") rfl rfl (Nat.le_of_ble_eq_true rfl) (fun p e s m args below meth c R Q cx hRk hr hQ H locs ls hP hS hl => ?_)
  have hx := cx.1
  have hb := cx.2.1
  have hown := cx.2.2.2.1
  have hts := cx.2.2.2.2.1
  have hl : lv_has ls 5 [(0, .ref (ad g 15))] := hl
  have J104 : ∀ (v1 : Int32) (v2 : Int32) (v3 : Int32) (u1 : Int32) (σ : Mem), f_Mo_hole_J104 v1 v2 v3 u1 σ = some (r0, σ0) → ∀ (H : Heap) (locs : List Loc) (ls : Array Slot), lv_has ls 5 [(0, .ref (ad g 15)), (1, .int v1), (2, .int v2), (3, .int v3)] → Wd g σ H → va_S (wA g) s.heap H locs → W p l e R s m args below meth c H locs 0 0 Q (F0 m 104 ls [.int u1, .ref (ad g 15)]) := by
    intro v1 v2 v3 u1 σ h H locs ls hl hP hS
    unfold f_Mo_hole_J104 at h
    obtain ⟨σ1, eσ1, h⟩ := lt_some h
    refine p_Mo_cursor cx hP hS t_531 dMo_hole_104 eσ1 (fun H locs hP hS => ?_)
    refine lv_iconst (v := 1) hx hb dMo_hole_107 (by decide) ?_
    exact q_ri cx hr rfl hP hS hQ h dMo_hole_108
  unfold f_Mo_hole at h
  refine lv_aload_n hx hb dMo_hole_0 rfl (lv_at hl 0 rfl) ?_
  obtain ⟨rh7, σ8, h7, h⟩ := bn_some h
  refine q_cVv (rest := []) (As := []) cx hP hS hRk (c_Mo_spell l g hg h7) Y_Mo_spell V_Mo_spell t_774 (by decide) (by decide) (e_15 g _ _) rfl rfl hl.1 rfl (Nat.le_of_ble_eq_true rfl) dMo_hole_1 (fun H locs hP hS => ?_)
  refine lv_iconst (v := (-1)) hx hb dMo_hole_4 (by decide) ?_
  obtain ⟨x9, ex9, h⟩ := lt_some h
  refine q_nmi ex9 ?_
  refine lv_istore_n (lv' := [(1, .int x9), (0, .ref (ad g 15))]) hx hb dMo_hole_5 rfl hl (Nat.le_of_ble_eq_true rfl) rfl (fun ls hl => ?_)
  refine lv_iconst (v := (-1)) hx hb dMo_hole_6 (by decide) ?_
  obtain ⟨x10, ex10, h⟩ := lt_some h
  refine q_nmi ex10 ?_
  refine lv_istore_n (lv' := [(2, .int x10), (1, .int x9), (0, .ref (ad g 15))]) hx hb dMo_hole_7 rfl hl (Nat.le_of_ble_eq_true rfl) rfl (fun ls hl => ?_)
  refine lv_iconst (v := 0) hx hb dMo_hole_8 (by decide) ?_
  obtain ⟨x11, ex11, h⟩ := lt_some h
  refine q_nmi ex11 ?_
  refine lv_istore_n (lv' := [(3, .int x11), (2, .int x10), (1, .int x9), (0, .ref (ad g 15))]) hx hb dMo_hole_9 rfl hl (Nat.le_of_ble_eq_true rfl) rfl (fun ls hl => ?_)
  have L10 : ∀ (n : Nat) (v1 : Int32) (v2 : Int32) (v3 : Int32) (σ : Mem), loopF (fun (q : (Int32 × Int32 × Int32 × Mem)) => f_Mo_hole_L10 q.1 q.2.1 q.2.2.1 q.2.2.2) n (v1, v2, v3, σ) = some (r0, σ0) → ∀ (H : Heap) (locs : List Loc) (ls : Array Slot), lv_has ls 5 [(0, .ref (ad g 15)), (1, .int v1), (2, .int v2), (3, .int v3)] → Wd g σ H → va_S (wA g) s.heap H locs → W p l e R s m args below meth c H locs 0 0 Q (F0 m 10 ls []) := by
    intro n
    induction n with
    | zero => intro v1 v2 v3 σ h; exact (loopF_zero h).elim
    | succ n ih10 =>
      intro v1 v2 v3 σ h H locs ls hl hP hS
      obtain ⟨o10, h, K10, E10⟩ := loopF_succ h
      have h : f_Mo_hole_L10 v1 v2 v3 σ = some o10 := h
      have J81 : ∀ (v1 : Int32) (v2 : Int32) (v3 : Int32) (v4 : Int32) (u0 : Int32) (σ : Mem), f_Mo_hole_J81 v1 v2 v3 v4 u0 σ = some o10 → ∀ (H : Heap) (locs : List Loc) (ls : Array Slot), lv_has ls 5 [(0, .ref (ad g 15)), (1, .int v1), (2, .int v2), (3, .int v3), (4, .int v4)] → Wd g σ H → va_S (wA g) s.heap H locs → W p l e R s m args below meth c H locs 0 0 Q (F0 m 81 ls [.int u0]) := by
        intro v1 v2 v3 v4 u0 σ h H locs ls hl hP hS
        unfold f_Mo_hole_J81 at h
        refine lv_istore_n (lv' := [(2, .int u0), (0, .ref (ad g 15)), (1, .int v1), (3, .int v3), (4, .int v4)]) hx hb dMo_hole_81 rfl hl (Nat.le_of_ble_eq_true rfl) rfl (fun ls hl => ?_)
        obtain ⟨x2, ex2, h⟩ := lt_some h
        refine lv_iinc (lv' := [(3, .int x2), (2, .int u0), (0, .ref (ad g 15)), (1, .int v1), (4, .int v4)]) hx hb dMo_hole_82 hl (k := 3) rfl (q_inc ex2 (by decide)) (Nat.le_of_ble_eq_true rfl) rfl (fun ls hl => ?_)
        refine lv_goto (tgt := 10) hx hb dMo_hole_85 (by decide) ?_
        exact ih10 _ _ _ _ (K10 _ (Option.some.inj h).symm) _ _ _ (lv_sub hl [2, 3, 1, 0] rfl) hP hS
      have J80 : ∀ (v1 : Int32) (v2 : Int32) (v3 : Int32) (v4 : Int32) (σ : Mem), f_Mo_hole_J80 v1 v2 v3 v4 σ = some o10 → ∀ (H : Heap) (locs : List Loc) (ls : Array Slot), lv_has ls 5 [(0, .ref (ad g 15)), (1, .int v1), (2, .int v2), (3, .int v3), (4, .int v4)] → Wd g σ H → va_S (wA g) s.heap H locs → W p l e R s m args below meth c H locs 0 0 Q (F0 m 80 ls []) := by
        intro v1 v2 v3 v4 σ h H locs ls hl hP hS
        unfold f_Mo_hole_J80 at h
        refine lv_iload_n hx hb dMo_hole_80 rfl (lv_at hl 2 rfl) ?_
        exact J81 _ _ _ _ _ _ h _ _ _ (lv_sub hl [0, 1, 2, 3, 4] rfl) hP hS
      have J48 : ∀ (v1 : Int32) (v2 : Int32) (v3 : Int32) (v4 : Int32) (u0 : Int32) (σ : Mem), f_Mo_hole_J48 v1 v2 v3 v4 u0 σ = some o10 → ∀ (H : Heap) (locs : List Loc) (ls : Array Slot), lv_has ls 5 [(0, .ref (ad g 15)), (1, .int v1), (2, .int v2), (3, .int v3), (4, .int v4)] → Wd g σ H → va_S (wA g) s.heap H locs → W p l e R s m args below meth c H locs 0 0 Q (F0 m 48 ls [.int u0]) := by
        intro v1 v2 v3 v4 u0 σ h H locs ls hl hP hS
        unfold f_Mo_hole_J48 at h
        refine lv_istore_n (lv' := [(1, .int u0), (0, .ref (ad g 15)), (2, .int v2), (3, .int v3), (4, .int v4)]) hx hb dMo_hole_48 rfl hl (Nat.le_of_ble_eq_true rfl) rfl (fun ls hl => ?_)
        refine lv_iload hx hb dMo_hole_49 (lv_at hl 4 rfl) ?_
        refine lv_if_eq (tgt := 80) hx hb dMo_hole_51 (by decide) (fun hc => ?_) (fun hc => ?_)
        · replace h := if_t h hc
          exact J80 _ _ _ _ _ h _ _ _ (lv_sub hl [1, 0, 2, 3, 4] rfl) hP hS
        · replace h := if_f h hc
          refine lv_iload_n hx hb dMo_hole_54 rfl (lv_at hl 2 rfl) ?_
          refine lv_if_ge (tgt := 80) hx hb dMo_hole_55 (by decide) (fun hc => ?_) (fun hc => ?_)
          · replace h := if_t h hc
            exact J80 _ _ _ _ _ h _ _ _ (lv_sub hl [1, 0, 2, 3, 4] rfl) hP hS
          · replace h := if_f h hc
            refine lv_aload_n hx hb dMo_hole_58 rfl (lv_at hl 1 rfl) ?_
            refine g_Mo_begins cx hP  t_550 dMo_hole_59 ?_
            refine lv_iload_n hx hb dMo_hole_62 rfl (lv_at hl 3 rfl) ?_
            obtain ⟨b3, h⟩ := gd_some h
            refine q_iald cx hP (by decide) (e_29 g) b3 dMo_hole_63 ?_
            refine lv_aload_n hx hb dMo_hole_64 rfl (lv_at hl 1 rfl) ?_
            refine g_Mo_begins cx hP  t_550 dMo_hole_65 ?_
            refine lv_aload_n hx hb dMo_hole_68 rfl (lv_at hl 1 rfl) ?_
            refine g_Mo_cursor cx hP  t_531 dMo_hole_69 ?_
            obtain ⟨b4, h⟩ := gd_some h
            refine q_iald cx hP (by decide) (e_29 g) b4 dMo_hole_72 ?_
            refine lv_icmp_le (tgt := 80) hx hb dMo_hole_73 (by decide) (fun hc => ?_) (fun hc => ?_)
            · replace h := if_t h hc
              exact J80 _ _ _ _ _ h _ _ _ (lv_sub hl [1, 0, 2, 3, 4] rfl) hP hS
            · replace h := if_f h hc
              refine lv_iload_n hx hb dMo_hole_76 rfl (lv_at hl 3 rfl) ?_
              refine lv_goto (tgt := 81) hx hb dMo_hole_77 (by decide) ?_
              exact J81 _ _ _ _ _ _ h _ _ _ (lv_sub hl [1, 0, 2, 3, 4] rfl) hP hS
      have J47 : ∀ (v1 : Int32) (v2 : Int32) (v3 : Int32) (v4 : Int32) (σ : Mem), f_Mo_hole_J47 v1 v2 v3 v4 σ = some o10 → ∀ (H : Heap) (locs : List Loc) (ls : Array Slot), lv_has ls 5 [(0, .ref (ad g 15)), (1, .int v1), (2, .int v2), (3, .int v3), (4, .int v4)] → Wd g σ H → va_S (wA g) s.heap H locs → W p l e R s m args below meth c H locs 0 0 Q (F0 m 47 ls []) := by
        intro v1 v2 v3 v4 σ h H locs ls hl hP hS
        unfold f_Mo_hole_J47 at h
        refine lv_iload_n hx hb dMo_hole_47 rfl (lv_at hl 1 rfl) ?_
        exact J48 _ _ _ _ _ _ h _ _ _ (lv_sub hl [0, 1, 2, 3, 4] rfl) hP hS
      have J32 : ∀ (v1 : Int32) (v2 : Int32) (v3 : Int32) (u0 : Int32) (σ : Mem), f_Mo_hole_J32 v1 v2 v3 u0 σ = some o10 → ∀ (H : Heap) (locs : List Loc) (ls : Array Slot), lv_has ls 5 [(0, .ref (ad g 15)), (1, .int v1), (2, .int v2), (3, .int v3)] → Wd g σ H → va_S (wA g) s.heap H locs → W p l e R s m args below meth c H locs 0 0 Q (F0 m 32 ls [.int u0]) := by
        intro v1 v2 v3 u0 σ h H locs ls hl hP hS
        unfold f_Mo_hole_J32 at h
        refine lv_istore (lv' := [(4, .int u0), (0, .ref (ad g 15)), (1, .int v1), (2, .int v2), (3, .int v3)]) hx hb dMo_hole_32 hl (Nat.le_of_ble_eq_true rfl) rfl (fun ls hl => ?_)
        refine lv_iload hx hb dMo_hole_34 (lv_at hl 0 rfl) ?_
        refine lv_if_eq (tgt := 47) hx hb dMo_hole_36 (by decide) (fun hc => ?_) (fun hc => ?_)
        · replace h := if_t h hc
          exact J47 _ _ _ _ _ h _ _ _ (lv_sub hl [1, 2, 3, 4, 0] rfl) hP hS
        · replace h := if_f h hc
          refine lv_iload_n hx hb dMo_hole_39 rfl (lv_at hl 2 rfl) ?_
          refine lv_if_ge (tgt := 47) hx hb dMo_hole_40 (by decide) (fun hc => ?_) (fun hc => ?_)
          · replace h := if_t h hc
            exact J47 _ _ _ _ _ h _ _ _ (lv_sub hl [1, 2, 3, 4, 0] rfl) hP hS
          · replace h := if_f h hc
            refine lv_iload_n hx hb dMo_hole_43 rfl (lv_at hl 4 rfl) ?_
            refine lv_goto (tgt := 48) hx hb dMo_hole_44 (by decide) ?_
            exact J48 _ _ _ _ _ _ h _ _ _ (lv_sub hl [1, 2, 3, 4, 0] rfl) hP hS
      unfold f_Mo_hole_L10 at h
      refine lv_iload_n hx hb dMo_hole_10 rfl (lv_at hl 3 rfl) ?_
      refine lv_aload_n hx hb dMo_hole_11 rfl (lv_at hl 0 rfl) ?_
      refine g_Mo_count cx hP  t_530 dMo_hole_12 ?_
      refine lv_icmp_ge (tgt := 88) hx hb dMo_hole_15 (by decide) (fun hc => ?_) (fun hc => ?_)
      · replace h := if_t h hc
        obtain ⟨z5, h, ez5⟩ := inrM_some h
        rw [E10 z5 ez5] at h
        refine lv_iload_n hx hb dMo_hole_88 rfl (lv_at hl 1 rfl) ?_
        refine lv_if_ge (tgt := 94) hx hb dMo_hole_89 (by decide) (fun hc => ?_) (fun hc => ?_)
        · replace h := if_t h hc
          refine lv_aload_n hx hb dMo_hole_94 rfl (lv_at hl 0 rfl) ?_
          refine lv_iload_n hx hb dMo_hole_95 rfl (lv_at hl 2 rfl) ?_
          refine lv_if_ge (tgt := 103) hx hb dMo_hole_96 (by decide) (fun hc => ?_) (fun hc => ?_)
          · replace h := if_t h hc
            refine lv_iload_n hx hb dMo_hole_103 rfl (lv_at hl 2 rfl) ?_
            exact J104 _ _ _ _ _ h _ _ _ (lv_sub hl [0, 1, 2, 3] rfl) hP hS
          · replace h := if_f h hc
            refine lv_iload_n hx hb dMo_hole_99 rfl (lv_at hl 1 rfl) ?_
            refine lv_goto (tgt := 104) hx hb dMo_hole_100 (by decide) ?_
            exact J104 _ _ _ _ _ h _ _ _ (lv_sub hl [0, 1, 2, 3] rfl) hP hS
        · replace h := if_f h hc
          refine lv_iconst (v := 0) hx hb dMo_hole_92 (by decide) ?_
          exact q_ri cx hr rfl hP hS hQ h dMo_hole_93
      · replace h := if_f h hc
        refine lv_aload_n hx hb dMo_hole_18 rfl (lv_at hl 0 rfl) ?_
        refine g_Mo_kinds cx hP  t_532 dMo_hole_19 ?_
        refine lv_iload_n hx hb dMo_hole_22 rfl (lv_at hl 3 rfl) ?_
        obtain ⟨b6, h⟩ := gd_some h
        refine q_iald cx hP (by decide) (e_16 g) b6 dMo_hole_23 ?_
        refine lv_if_ne (tgt := 31) hx hb dMo_hole_24 (by decide) (fun hc => ?_) (fun hc => ?_)
        · replace h := if_f h hc
          refine lv_iconst (v := 0) hx hb dMo_hole_31 (by decide) ?_
          exact J32 _ _ _ _ _ h _ _ _ (lv_sub hl [0, 1, 2, 3] rfl) hP hS
        · replace h := if_t h hc
          refine lv_iconst (v := 1) hx hb dMo_hole_27 (by decide) ?_
          refine lv_goto (tgt := 32) hx hb dMo_hole_28 (by decide) ?_
          exact J32 _ _ _ _ _ h _ _ _ (lv_sub hl [0, 1, 2, 3] rfl) hP hS
  exact L10 _ _ _ _ _ h _ _ _ (lv_sub hl [3, 2, 1, 0] rfl) hP hS
theorem dMo_click_0 : decode cMo_click 0 = .ok (.aload_n 0, 1) := by decide +kernel
theorem dMo_click_1 : decode cMo_click 1 = .ok (.invokevirtual 181, 3) := by decide +kernel
theorem dMo_click_4 : decode cMo_click 4 = .ok (.iload_n 1, 1) := by decide +kernel
theorem dMo_click_5 : decode cMo_click 5 = .ok (.ifCond .lt 11, 3) := by decide +kernel
theorem dMo_click_8 : decode cMo_click 8 = .ok (.iload_n 1, 1) := by decide +kernel
theorem dMo_click_9 : decode cMo_click 9 = .ok (.aload_n 0, 1) := by decide +kernel
theorem dMo_click_10 : decode cMo_click 10 = .ok (.getfield 184, 3) := by decide +kernel
theorem dMo_click_13 : decode cMo_click 13 = .ok (.if_icmp .lt 5, 3) := by decide +kernel
theorem dMo_click_16 : decode cMo_click 16 = .ok (.iconst 0, 1) := by decide +kernel
theorem dMo_click_17 : decode cMo_click 17 = .ok (.ireturn, 1) := by decide +kernel
theorem dMo_click_18 : decode cMo_click 18 = .ok (.aload_n 0, 1) := by decide +kernel
theorem dMo_click_19 : decode cMo_click 19 = .ok (.aload_n 0, 1) := by decide +kernel
theorem dMo_click_20 : decode cMo_click 20 = .ok (.getfield 51, 3) := by decide +kernel
theorem dMo_click_23 : decode cMo_click 23 = .ok (.iload_n 1, 1) := by decide +kernel
theorem dMo_click_24 : decode cMo_click 24 = .ok (.iaload, 1) := by decide +kernel
theorem dMo_click_25 : decode cMo_click 25 = .ok (.putfield 123, 3) := by decide +kernel
theorem dMo_click_28 : decode cMo_click 28 = .ok (.iconst 1, 1) := by decide +kernel
theorem dMo_click_29 : decode cMo_click 29 = .ok (.ireturn, 1) := by decide +kernel
def f_Mo_click_J16  (v1 : Int32) (σ : Mem) : Option (Int32 × Mem) :=
  some ((0 : Int32), σ)
def f_Mo_click  (v1 : Int32) (σ : Mem) : Option (Int32 × Mem) :=
  bn (f_Mo_spell σ) fun (_ : Unit) (σ2 : Mem) =>
  if v1 < 0 then (
  f_Mo_click_J16 v1 σ2)
  else (
  if v1 < (σ2.1 15 17) then (
  gd (inb v1 2400) (
  lt_ (sI σ2 15 1 (σ2.1 28 v1.toNatClampNeg)) fun (σ4 : Mem) =>
  some ((1 : Int32), σ4)))
  else (
  f_Mo_click_J16 v1 σ2))
set_option maxHeartbeats 4000000 in
set_option maxRecDepth 100000 in
theorem c_Mo_click (l : Launch) (g : Gw) (hg : wInj g) {v1 : Int32} {r0 : Int32} {σ σ0 : Mem} (h : f_Mo_click v1 σ = some (r0, σ0)) : KI l yMo_click cMo_click 2 (some .boolean) 5 g [.ref (ad g 15), .int v1] σ r0 σ0 := by
  refine q_met g hg (own := "TermBenchModel") rfl rfl (Nat.le_of_ble_eq_true rfl) (fun p e s m args below meth c R Q cx hRk hr hQ H locs ls hP hS hl => ?_)
  have hx := cx.1
  have hb := cx.2.1
  have hown := cx.2.2.2.1
  have hts := cx.2.2.2.2.1
  have hl : lv_has ls 2 [(0, .ref (ad g 15)), (1, .int v1)] := hl
  have J16 : ∀ (v1 : Int32) (σ : Mem), f_Mo_click_J16 v1 σ = some (r0, σ0) → ∀ (H : Heap) (locs : List Loc) (ls : Array Slot), lv_has ls 2 [(0, .ref (ad g 15)), (1, .int v1)] → Wd g σ H → va_S (wA g) s.heap H locs → W p l e R s m args below meth c H locs 0 0 Q (F0 m 16 ls []) := by
    intro v1 σ h H locs ls hl hP hS
    unfold f_Mo_click_J16 at h
    refine lv_iconst (v := 0) hx hb dMo_click_16 (by decide) ?_
    exact q_ri cx hr rfl hP hS hQ h dMo_click_17
  unfold f_Mo_click at h
  refine lv_aload_n hx hb dMo_click_0 rfl (lv_at hl 0 rfl) ?_
  obtain ⟨rh1, σ2, h1, h⟩ := bn_some h
  refine q_cVv (rest := []) (As := []) cx hP hS hRk (c_Mo_spell l g hg h1) Y_Mo_spell V_Mo_spell t_774 (by decide) (by decide) (e_15 g _ _) rfl rfl hl.1 rfl (Nat.le_of_ble_eq_true rfl) dMo_click_1 (fun H locs hP hS => ?_)
  refine lv_iload_n hx hb dMo_click_4 rfl (lv_at hl 1 rfl) ?_
  refine lv_if_lt (tgt := 16) hx hb dMo_click_5 (by decide) (fun hc => ?_) (fun hc => ?_)
  · replace h := if_t h hc
    exact J16 _ _ h _ _ _ (lv_sub hl [0, 1] rfl) hP hS
  · replace h := if_f h hc
    refine lv_iload_n hx hb dMo_click_8 rfl (lv_at hl 1 rfl) ?_
    refine lv_aload_n hx hb dMo_click_9 rfl (lv_at hl 0 rfl) ?_
    refine g_Mo_length cx hP  t_547 dMo_click_10 ?_
    refine lv_icmp_lt (tgt := 18) hx hb dMo_click_13 (by decide) (fun hc => ?_) (fun hc => ?_)
    · replace h := if_t h hc
      refine lv_aload_n hx hb dMo_click_18 rfl (lv_at hl 0 rfl) ?_
      refine lv_aload_n hx hb dMo_click_19 rfl (lv_at hl 0 rfl) ?_
      refine g_Mo_owner cx hP  t_549 dMo_click_20 ?_
      refine lv_iload_n hx hb dMo_click_23 rfl (lv_at hl 1 rfl) ?_
      obtain ⟨b3, h⟩ := gd_some h
      refine q_iald cx hP (by decide) (e_28 g) b3 dMo_click_24 ?_
      obtain ⟨σ4, eσ4, h⟩ := lt_some h
      refine p_Mo_cursor cx hP hS t_531 dMo_click_25 eσ4 (fun H locs hP hS => ?_)
      refine lv_iconst (v := 1) hx hb dMo_click_28 (by decide) ?_
      exact q_ri cx hr rfl hP hS hQ h dMo_click_29
    · replace h := if_f h hc
      exact J16 _ _ h _ _ _ (lv_sub hl [0, 1] rfl) hP hS
theorem dMo_column_0 : decode cMo_column 0 = .ok (.aload_n 0, 1) := by decide +kernel
theorem dMo_column_1 : decode cMo_column 1 = .ok (.invokevirtual 181, 3) := by decide +kernel
theorem dMo_column_4 : decode cMo_column 4 = .ok (.aload_n 0, 1) := by decide +kernel
theorem dMo_column_5 : decode cMo_column 5 = .ok (.getfield 54, 3) := by decide +kernel
theorem dMo_column_8 : decode cMo_column 8 = .ok (.aload_n 0, 1) := by decide +kernel
theorem dMo_column_9 : decode cMo_column 9 = .ok (.getfield 123, 3) := by decide +kernel
theorem dMo_column_12 : decode cMo_column 12 = .ok (.iaload, 1) := by decide +kernel
theorem dMo_column_13 : decode cMo_column 13 = .ok (.ireturn, 1) := by decide +kernel
def f_Mo_column   (σ : Mem) : Option (Int32 × Mem) :=
  bn (f_Mo_spell σ) fun (_ : Unit) (σ2 : Mem) =>
  gd (inb (σ2.1 15 1) 48) (
  some (σ2.1 29 (σ2.1 15 1).toNatClampNeg, σ2))
set_option maxHeartbeats 4000000 in
set_option maxRecDepth 100000 in
theorem c_Mo_column (l : Launch) (g : Gw) (hg : wInj g) {r0 : Int32} {σ σ0 : Mem} (h : f_Mo_column σ = some (r0, σ0)) : KI l yMo_column cMo_column 1 (some .int) 5 g [.ref (ad g 15)] σ r0 σ0 := by
  refine q_met g hg (own := "TermBenchModel") rfl rfl (Nat.le_of_ble_eq_true rfl) (fun p e s m args below meth c R Q cx hRk hr hQ H locs ls hP hS hl => ?_)
  have hx := cx.1
  have hb := cx.2.1
  have hown := cx.2.2.2.1
  have hts := cx.2.2.2.2.1
  have hl : lv_has ls 1 [(0, .ref (ad g 15))] := hl
  unfold f_Mo_column at h
  refine lv_aload_n hx hb dMo_column_0 rfl (lv_at hl 0 rfl) ?_
  obtain ⟨rh1, σ2, h1, h⟩ := bn_some h
  refine q_cVv (rest := []) (As := []) cx hP hS hRk (c_Mo_spell l g hg h1) Y_Mo_spell V_Mo_spell t_774 (by decide) (by decide) (e_15 g _ _) rfl rfl hl.1 rfl (Nat.le_of_ble_eq_true rfl) dMo_column_1 (fun H locs hP hS => ?_)
  refine lv_aload_n hx hb dMo_column_4 rfl (lv_at hl 0 rfl) ?_
  refine g_Mo_begins cx hP  t_550 dMo_column_5 ?_
  refine lv_aload_n hx hb dMo_column_8 rfl (lv_at hl 0 rfl) ?_
  refine g_Mo_cursor cx hP  t_531 dMo_column_9 ?_
  obtain ⟨b3, h⟩ := gd_some h
  refine q_iald cx hP (by decide) (e_29 g) b3 dMo_column_12 ?_
  exact q_ri cx hr rfl hP hS hQ h dMo_column_13
theorem dMo_kind_0 : decode cMo_kind 0 = .ok (.aload_n 0, 1) := by decide +kernel
theorem dMo_kind_1 : decode cMo_kind 1 = .ok (.getfield 13, 3) := by decide +kernel
theorem dMo_kind_4 : decode cMo_kind 4 = .ok (.aload_n 0, 1) := by decide +kernel
theorem dMo_kind_5 : decode cMo_kind 5 = .ok (.getfield 123, 3) := by decide +kernel
theorem dMo_kind_8 : decode cMo_kind 8 = .ok (.iaload, 1) := by decide +kernel
theorem dMo_kind_9 : decode cMo_kind 9 = .ok (.ireturn, 1) := by decide +kernel
def f_Mo_kind   (σ : Mem) : Option (Int32 × Mem) :=
  gd (inb (σ.1 15 1) 48) (
  some (σ.1 16 (σ.1 15 1).toNatClampNeg, σ))
set_option maxHeartbeats 4000000 in
set_option maxRecDepth 100000 in
theorem c_Mo_kind (l : Launch) (g : Gw) (hg : wInj g) {r0 : Int32} {σ σ0 : Mem} (h : f_Mo_kind σ = some (r0, σ0)) : KI l yMo_kind cMo_kind 1 (some .int) 0 g [.ref (ad g 15)] σ r0 σ0 := by
  refine q_met g hg (own := "TermBenchModel") rfl rfl (Nat.le_of_ble_eq_true rfl) (fun p e s m args below meth c R Q cx hRk hr hQ H locs ls hP hS hl => ?_)
  have hx := cx.1
  have hb := cx.2.1
  have hown := cx.2.2.2.1
  have hts := cx.2.2.2.2.1
  have hl : lv_has ls 1 [(0, .ref (ad g 15))] := hl
  unfold f_Mo_kind at h
  refine lv_aload_n hx hb dMo_kind_0 rfl (lv_at hl 0 rfl) ?_
  refine g_Mo_kinds cx hP  t_532 dMo_kind_1 ?_
  refine lv_aload_n hx hb dMo_kind_4 rfl (lv_at hl 0 rfl) ?_
  refine g_Mo_cursor cx hP  t_531 dMo_kind_5 ?_
  obtain ⟨b1, h⟩ := gd_some h
  refine q_iald cx hP (by decide) (e_16 g) b1 dMo_kind_8 ?_
  exact q_ri cx hr rfl hP hS hQ h dMo_kind_9
theorem dMo_text_0 : decode cMo_text 0 = .ok (.aload_n 0, 1) := by decide +kernel
theorem dMo_text_1 : decode cMo_text 1 = .ok (.invokevirtual 181, 3) := by decide +kernel
theorem dMo_text_4 : decode cMo_text 4 = .ok (.lconst 0, 1) := by decide +kernel
theorem dMo_text_5 : decode cMo_text 5 = .ok (.lstore_n 2, 1) := by decide +kernel
theorem dMo_text_6 : decode cMo_text 6 = .ok (.bipush 7, 2) := by decide +kernel
theorem dMo_text_8 : decode cMo_text 8 = .ok (.istore 4, 2) := by decide +kernel
theorem dMo_text_10 : decode cMo_text 10 = .ok (.iload 4, 2) := by decide +kernel
theorem dMo_text_12 : decode cMo_text 12 = .ok (.ifCond .lt 57, 3) := by decide +kernel
theorem dMo_text_15 : decode cMo_text 15 = .ok (.iload_n 1, 1) := by decide +kernel
theorem dMo_text_16 : decode cMo_text 16 = .ok (.ifCond .lt 53, 3) := by decide +kernel
theorem dMo_text_19 : decode cMo_text 19 = .ok (.iload_n 1, 1) := by decide +kernel
theorem dMo_text_20 : decode cMo_text 20 = .ok (.sipush 300, 3) := by decide +kernel
theorem dMo_text_23 : decode cMo_text 23 = .ok (.if_icmp .ge 46, 3) := by decide +kernel
theorem dMo_text_26 : decode cMo_text 26 = .ok (.lload_n 2, 1) := by decide +kernel
theorem dMo_text_27 : decode cMo_text 27 = .ok (.bipush 8, 2) := by decide +kernel
theorem dMo_text_29 : decode cMo_text 29 = .ok (.lshl, 1) := by decide +kernel
theorem dMo_text_30 : decode cMo_text 30 = .ok (.bipush 8, 2) := by decide +kernel
theorem dMo_text_32 : decode cMo_text 32 = .ok (.iload_n 1, 1) := by decide +kernel
theorem dMo_text_33 : decode cMo_text 33 = .ok (.imul, 1) := by decide +kernel
theorem dMo_text_34 : decode cMo_text 34 = .ok (.iload 4, 2) := by decide +kernel
theorem dMo_text_36 : decode cMo_text 36 = .ok (.iadd, 1) := by decide +kernel
theorem dMo_text_37 : decode cMo_text 37 = .ok (.aload_n 0, 1) := by decide +kernel
theorem dMo_text_38 : decode cMo_text 38 = .ok (.getfield 184, 3) := by decide +kernel
theorem dMo_text_41 : decode cMo_text 41 = .ok (.if_icmp .ge 18, 3) := by decide +kernel
theorem dMo_text_44 : decode cMo_text 44 = .ok (.aload_n 0, 1) := by decide +kernel
theorem dMo_text_45 : decode cMo_text 45 = .ok (.getfield 48, 3) := by decide +kernel
theorem dMo_text_48 : decode cMo_text 48 = .ok (.bipush 8, 2) := by decide +kernel
theorem dMo_text_50 : decode cMo_text 50 = .ok (.iload_n 1, 1) := by decide +kernel
theorem dMo_text_51 : decode cMo_text 51 = .ok (.imul, 1) := by decide +kernel
theorem dMo_text_52 : decode cMo_text 52 = .ok (.iload 4, 2) := by decide +kernel
theorem dMo_text_54 : decode cMo_text 54 = .ok (.iadd, 1) := by decide +kernel
theorem dMo_text_55 : decode cMo_text 55 = .ok (.iaload, 1) := by decide +kernel
theorem dMo_text_56 : decode cMo_text 56 = .ok (.goto 4, 3) := by decide +kernel
theorem dMo_text_59 : decode cMo_text 59 = .ok (.iconst 0, 1) := by decide +kernel
theorem dMo_text_60 : decode cMo_text 60 = .ok (.i2l, 1) := by decide +kernel
theorem dMo_text_61 : decode cMo_text 61 = .ok (.lor, 1) := by decide +kernel
theorem dMo_text_62 : decode cMo_text 62 = .ok (.lstore_n 2, 1) := by decide +kernel
theorem dMo_text_63 : decode cMo_text 63 = .ok (.iinc 4 (-1), 3) := by decide +kernel
theorem dMo_text_66 : decode cMo_text 66 = .ok (.goto (-56), 3) := by decide +kernel
theorem dMo_text_69 : decode cMo_text 69 = .ok (.lload_n 2, 1) := by decide +kernel
theorem dMo_text_70 : decode cMo_text 70 = .ok (.lreturn, 1) := by decide +kernel
def f_Mo_text_J69  (v1 : Int32) (v2 : Int64) (v4 : Int32) (σ : Mem) : Option (Int64 × Mem) :=
  some (v2, σ)
def f_Mo_text_J60  (v1 : Int32) (v2 : Int64) (v4 : Int32) (u0 : Int64) (u1 : Int32) (σ : Mem) : Option ((Int64 × Int32 × Mem) ⊕ (Int64 × Mem)) :=
  lt_ (u0 ||| u1.toInt64) fun (x1 : Int64) =>
  lt_ (v4 + (-1)) fun (x2 : Int32) =>
  some (.inl (x1, x2, σ))
def f_Mo_text_L10  (v1 : Int32) (v2 : Int64) (v4 : Int32) (σ : Mem) : Option ((Int64 × Int32 × Mem) ⊕ (Int64 × Mem)) :=
  if v4 < 0 then (
  inrM (f_Mo_text_J69 v1 v2 v4 σ))
  else (
  if v1 < 0 then (
  inrM (f_Mo_text_J69 v1 v2 v4 σ))
  else (
  if (300 : Int32) ≤ v1 then (
  inrM (f_Mo_text_J69 v1 v2 v4 σ))
  else (
  if (σ.1 15 17) ≤ (((8 : Int32) * v1) + v4) then (
  f_Mo_text_J60 v1 v2 v4 (v2 <<< ((8 : Int32).toInt64 &&& 63)) (0 : Int32) σ)
  else (
  gd (inb (((8 : Int32) * v1) + v4) 2400) (
  f_Mo_text_J60 v1 v2 v4 (v2 <<< ((8 : Int32).toInt64 &&& 63)) (σ.1 27 (((8 : Int32) * v1) + v4).toNatClampNeg) σ)))))
def f_Mo_text  (v1 : Int32) (σ : Mem) : Option (Int64 × Mem) :=
  bn (f_Mo_spell σ) fun (_ : Unit) (σ8 : Mem) =>
  lt_ (0 : Int64) fun (x9 : Int64) =>
  lt_ (7 : Int32) fun (x10 : Int32) =>
  loopF (fun (q : (Int64 × Int32 × Mem)) => f_Mo_text_L10 v1 q.1 q.2.1 q.2.2) FU (x9, x10, σ8)
set_option maxHeartbeats 4000000 in
set_option maxRecDepth 100000 in
theorem c_Mo_text (l : Launch) (g : Gw) (hg : wInj g) {v1 : Int32} {r0 : Int64} {σ σ0 : Mem} (h : f_Mo_text v1 σ = some (r0, σ0)) : KL l yMo_text cMo_text 5 (some .long) 5 g [.ref (ad g 15), .int v1] σ r0 σ0 := by
  refine q_met g hg (own := "TermBenchModel") rfl rfl (Nat.le_of_ble_eq_true rfl) (fun p e s m args below meth c R Q cx hRk hr hQ H locs ls hP hS hl => ?_)
  have hx := cx.1
  have hb := cx.2.1
  have hown := cx.2.2.2.1
  have hts := cx.2.2.2.2.1
  have hl : lv_has ls 5 [(0, .ref (ad g 15)), (1, .int v1)] := hl
  have J69 : ∀ (v1 : Int32) (v2 : Int64) (v4 : Int32) (σ : Mem), f_Mo_text_J69 v1 v2 v4 σ = some (r0, σ0) → ∀ (H : Heap) (locs : List Loc) (ls : Array Slot), lv_has ls 5 [(0, .ref (ad g 15)), (1, .int v1), (2, .long v2), (4, .int v4)] → Wd g σ H → va_S (wA g) s.heap H locs → W p l e R s m args below meth c H locs 0 0 Q (F0 m 69 ls []) := by
    intro v1 v2 v4 σ h H locs ls hl hP hS
    unfold f_Mo_text_J69 at h
    refine lv_lload_n hx hb dMo_text_69 rfl (lv_at hl 2 rfl) ?_
    exact q_rl cx hr hP hS hQ h dMo_text_70
  unfold f_Mo_text at h
  refine lv_aload_n hx hb dMo_text_0 rfl (lv_at hl 0 rfl) ?_
  obtain ⟨rh7, σ8, h7, h⟩ := bn_some h
  refine q_cVv (rest := []) (As := []) cx hP hS hRk (c_Mo_spell l g hg h7) Y_Mo_spell V_Mo_spell t_774 (by decide) (by decide) (e_15 g _ _) rfl rfl hl.1 rfl (Nat.le_of_ble_eq_true rfl) dMo_text_1 (fun H locs hP hS => ?_)
  refine lv_lconst (v := 0) hx hb dMo_text_4 rfl ?_
  obtain ⟨x9, ex9, h⟩ := lt_some h
  refine q_nml ex9 ?_
  refine lv_lstore_n (lv' := [(2, .long x9), (0, .ref (ad g 15)), (1, .int v1)]) hx hb dMo_text_5 rfl hl (Nat.le_of_ble_eq_true rfl) rfl (fun ls hl => ?_)
  refine lv_bipush (v := 7) hx hb dMo_text_6 (by decide) ?_
  obtain ⟨x10, ex10, h⟩ := lt_some h
  refine q_nmi ex10 ?_
  refine lv_istore (lv' := [(4, .int x10), (2, .long x9), (0, .ref (ad g 15)), (1, .int v1)]) hx hb dMo_text_8 hl (Nat.le_of_ble_eq_true rfl) rfl (fun ls hl => ?_)
  have L10 : ∀ (n : Nat) (v1 : Int32) (v2 : Int64) (v4 : Int32) (σ : Mem), loopF (fun (q : (Int64 × Int32 × Mem)) => f_Mo_text_L10 v1 q.1 q.2.1 q.2.2) n (v2, v4, σ) = some (r0, σ0) → ∀ (H : Heap) (locs : List Loc) (ls : Array Slot), lv_has ls 5 [(0, .ref (ad g 15)), (1, .int v1), (2, .long v2), (4, .int v4)] → Wd g σ H → va_S (wA g) s.heap H locs → W p l e R s m args below meth c H locs 0 0 Q (F0 m 10 ls []) := by
    intro n
    induction n with
    | zero => intro v1 v2 v4 σ h; exact (loopF_zero h).elim
    | succ n ih10 =>
      intro v1 v2 v4 σ h H locs ls hl hP hS
      obtain ⟨o10, h, K10, E10⟩ := loopF_succ h
      have h : f_Mo_text_L10 v1 v2 v4 σ = some o10 := h
      have J60 : ∀ (v2 : Int64) (v4 : Int32) (u0 : Int64) (u1 : Int32) (σ : Mem), f_Mo_text_J60 v1 v2 v4 u0 u1 σ = some o10 → ∀ (H : Heap) (locs : List Loc) (ls : Array Slot), lv_has ls 5 [(0, .ref (ad g 15)), (1, .int v1), (2, .long v2), (4, .int v4)] → Wd g σ H → va_S (wA g) s.heap H locs → W p l e R s m args below meth c H locs 0 0 Q (F0 m 60 ls [.int u1, .long u0]) := by
        intro v2 v4 u0 u1 σ h H locs ls hl hP hS
        unfold f_Mo_text_J60 at h
        refine lv_i2l hx hb dMo_text_60 rfl ?_
        refine lv_lor hx hb dMo_text_61 ?_
        obtain ⟨x1, ex1, h⟩ := lt_some h
        refine q_nml ex1 ?_
        refine lv_lstore_n (lv' := [(2, .long x1), (0, .ref (ad g 15)), (1, .int v1), (4, .int v4)]) hx hb dMo_text_62 rfl hl (Nat.le_of_ble_eq_true rfl) rfl (fun ls hl => ?_)
        obtain ⟨x2, ex2, h⟩ := lt_some h
        refine lv_iinc (lv' := [(4, .int x2), (2, .long x1), (0, .ref (ad g 15)), (1, .int v1)]) hx hb dMo_text_63 hl (k := 3) rfl (q_inc ex2 (by decide)) (Nat.le_of_ble_eq_true rfl) rfl (fun ls hl => ?_)
        refine lv_goto (tgt := 10) hx hb dMo_text_66 (by decide) ?_
        exact ih10 _ _ _ _ (K10 _ (Option.some.inj h).symm) _ _ _ (lv_sub hl [2, 3, 1, 0] rfl) hP hS
      unfold f_Mo_text_L10 at h
      refine lv_iload hx hb dMo_text_10 (lv_at hl 3 rfl) ?_
      refine lv_if_lt (tgt := 69) hx hb dMo_text_12 (by decide) (fun hc => ?_) (fun hc => ?_)
      · replace h := if_t h hc
        obtain ⟨z3, h, ez3⟩ := inrM_some h
        rw [E10 z3 ez3] at h
        exact J69 _ _ _ _ h _ _ _ (lv_sub hl [0, 1, 2, 3] rfl) hP hS
      · replace h := if_f h hc
        refine lv_iload_n hx hb dMo_text_15 rfl (lv_at hl 1 rfl) ?_
        refine lv_if_lt (tgt := 69) hx hb dMo_text_16 (by decide) (fun hc => ?_) (fun hc => ?_)
        · replace h := if_t h hc
          obtain ⟨z4, h, ez4⟩ := inrM_some h
          rw [E10 z4 ez4] at h
          exact J69 _ _ _ _ h _ _ _ (lv_sub hl [0, 1, 2, 3] rfl) hP hS
        · replace h := if_f h hc
          refine lv_iload_n hx hb dMo_text_19 rfl (lv_at hl 1 rfl) ?_
          refine lv_sipush (v := 300) hx hb dMo_text_20 (by decide) ?_
          refine lv_icmp_ge (tgt := 69) hx hb dMo_text_23 (by decide) (fun hc => ?_) (fun hc => ?_)
          · replace h := if_t h hc
            obtain ⟨z5, h, ez5⟩ := inrM_some h
            rw [E10 z5 ez5] at h
            exact J69 _ _ _ _ h _ _ _ (lv_sub hl [0, 1, 2, 3] rfl) hP hS
          · replace h := if_f h hc
            refine lv_lload_n hx hb dMo_text_26 rfl (lv_at hl 2 rfl) ?_
            refine lv_bipush (v := 8) hx hb dMo_text_27 (by decide) ?_
            refine lv_lshl hx hb dMo_text_29 rfl ?_
            refine lv_bipush (v := 8) hx hb dMo_text_30 (by decide) ?_
            refine lv_iload_n hx hb dMo_text_32 rfl (lv_at hl 1 rfl) ?_
            refine lv_imul hx hb dMo_text_33 ?_
            refine lv_iload hx hb dMo_text_34 (lv_at hl 3 rfl) ?_
            refine lv_iadd hx hb dMo_text_36 ?_
            refine lv_aload_n hx hb dMo_text_37 rfl (lv_at hl 0 rfl) ?_
            refine g_Mo_length cx hP  t_547 dMo_text_38 ?_
            refine lv_icmp_ge (tgt := 59) hx hb dMo_text_41 (by decide) (fun hc => ?_) (fun hc => ?_)
            · replace h := if_t h hc
              refine lv_iconst (v := 0) hx hb dMo_text_59 (by decide) ?_
              exact J60 _ _ _ _ _ h _ _ _ (lv_sub hl [0, 1, 2, 3] rfl) hP hS
            · replace h := if_f h hc
              refine lv_aload_n hx hb dMo_text_44 rfl (lv_at hl 0 rfl) ?_
              refine g_Mo_letters cx hP  t_548 dMo_text_45 ?_
              refine lv_bipush (v := 8) hx hb dMo_text_48 (by decide) ?_
              refine lv_iload_n hx hb dMo_text_50 rfl (lv_at hl 1 rfl) ?_
              refine lv_imul hx hb dMo_text_51 ?_
              refine lv_iload hx hb dMo_text_52 (lv_at hl 3 rfl) ?_
              refine lv_iadd hx hb dMo_text_54 ?_
              obtain ⟨b6, h⟩ := gd_some h
              refine q_iald cx hP (by decide) (e_27 g) b6 dMo_text_55 ?_
              refine lv_goto (tgt := 60) hx hb dMo_text_56 (by decide) ?_
              exact J60 _ _ _ _ _ h _ _ _ (lv_sub hl [0, 1, 2, 3] rfl) hP hS
  exact L10 _ _ _ _ _ h _ _ _ (lv_sub hl [2, 3, 1, 0] rfl) hP hS
theorem dMo_has_0 : decode cMo_has 0 = .ok (.aload_n 0, 1) := by decide +kernel
theorem dMo_has_1 : decode cMo_has 1 = .ok (.getfield 45, 3) := by decide +kernel
theorem dMo_has_4 : decode cMo_has 4 = .ok (.iload_n 1, 1) := by decide +kernel
theorem dMo_has_5 : decode cMo_has 5 = .ok (.iaload, 1) := by decide +kernel
theorem dMo_has_6 : decode cMo_has 6 = .ok (.ifCond .ne 12, 3) := by decide +kernel
theorem dMo_has_9 : decode cMo_has 9 = .ok (.aload_n 0, 1) := by decide +kernel
theorem dMo_has_10 : decode cMo_has 10 = .ok (.getfield 39, 3) := by decide +kernel
theorem dMo_has_13 : decode cMo_has 13 = .ok (.iload_n 1, 1) := by decide +kernel
theorem dMo_has_14 : decode cMo_has 14 = .ok (.laload, 1) := by decide +kernel
theorem dMo_has_15 : decode cMo_has 15 = .ok (.goto 4, 3) := by decide +kernel
theorem dMo_has_18 : decode cMo_has 18 = .ok (.lconst 1, 1) := by decide +kernel
theorem dMo_has_19 : decode cMo_has 19 = .ok (.lreturn, 1) := by decide +kernel
def f_Mo_has_J19  (v1 : Int32) (u0 : Int64) (σ : Mem) : Option (Int64 × Mem) :=
  some (u0, σ)
def f_Mo_has  (v1 : Int32) (σ : Mem) : Option (Int64 × Mem) :=
  gd (inb v1 48) (
  if (σ.1 26 v1.toNatClampNeg) = 0 then (
  gd (inb v1 48) (
  f_Mo_has_J19 v1 (σ.2 24 v1.toNatClampNeg) σ))
  else (
  f_Mo_has_J19 v1 (1 : Int64) σ))
set_option maxHeartbeats 4000000 in
set_option maxRecDepth 100000 in
theorem c_Mo_has (l : Launch) (g : Gw) (hg : wInj g) {v1 : Int32} {r0 : Int64} {σ σ0 : Mem} (h : f_Mo_has v1 σ = some (r0, σ0)) : KL l yMo_has cMo_has 2 (some .long) 0 g [.ref (ad g 15), .int v1] σ r0 σ0 := by
  refine q_met g hg (own := "TermBenchModel") rfl rfl (Nat.le_of_ble_eq_true rfl) (fun p e s m args below meth c R Q cx hRk hr hQ H locs ls hP hS hl => ?_)
  have hx := cx.1
  have hb := cx.2.1
  have hown := cx.2.2.2.1
  have hts := cx.2.2.2.2.1
  have hl : lv_has ls 2 [(0, .ref (ad g 15)), (1, .int v1)] := hl
  have J19 : ∀ (v1 : Int32) (u0 : Int64) (σ : Mem), f_Mo_has_J19 v1 u0 σ = some (r0, σ0) → ∀ (H : Heap) (locs : List Loc) (ls : Array Slot), lv_has ls 2 [(0, .ref (ad g 15)), (1, .int v1)] → Wd g σ H → va_S (wA g) s.heap H locs → W p l e R s m args below meth c H locs 0 0 Q (F0 m 19 ls [.long u0]) := by
    intro v1 u0 σ h H locs ls hl hP hS
    unfold f_Mo_has_J19 at h
    exact q_rl cx hr hP hS hQ h dMo_has_19
  unfold f_Mo_has at h
  refine lv_aload_n hx hb dMo_has_0 rfl (lv_at hl 0 rfl) ?_
  refine g_Mo_marked cx hP  t_545 dMo_has_1 ?_
  refine lv_iload_n hx hb dMo_has_4 rfl (lv_at hl 1 rfl) ?_
  obtain ⟨b1, h⟩ := gd_some h
  refine q_iald cx hP (by decide) (e_26 g) b1 dMo_has_5 ?_
  refine lv_if_ne (tgt := 18) hx hb dMo_has_6 (by decide) (fun hc => ?_) (fun hc => ?_)
  · replace h := if_f h hc
    refine lv_lconst (v := 1) hx hb dMo_has_18 rfl ?_
    exact J19 _ _ _ h _ _ _ (lv_sub hl [0, 1] rfl) hP hS
  · replace h := if_t h hc
    refine lv_aload_n hx hb dMo_has_9 rfl (lv_at hl 0 rfl) ?_
    refine g_Mo_gots cx hP  t_543 dMo_has_10 ?_
    refine lv_iload_n hx hb dMo_has_13 rfl (lv_at hl 1 rfl) ?_
    obtain ⟨b2, h⟩ := gd_some h
    refine q_lald cx hP (by decide) (e_24 g) b2 dMo_has_14 ?_
    refine lv_goto (tgt := 19) hx hb dMo_has_15 (by decide) ?_
    exact J19 _ _ _ h _ _ _ (lv_sub hl [0, 1] rfl) hP hS
theorem dMo_binder_0 : decode cMo_binder 0 = .ok (.iload_n 1, 1) := by decide +kernel
theorem dMo_binder_1 : decode cMo_binder 1 = .ok (.iconst 1, 1) := by decide +kernel
theorem dMo_binder_2 : decode cMo_binder 2 = .ok (.isub, 1) := by decide +kernel
theorem dMo_binder_3 : decode cMo_binder 3 = .ok (.istore_n 2, 1) := by decide +kernel
theorem dMo_binder_4 : decode cMo_binder 4 = .ok (.iload_n 2, 1) := by decide +kernel
theorem dMo_binder_5 : decode cMo_binder 5 = .ok (.ifCond .lt 43, 3) := by decide +kernel
theorem dMo_binder_8 : decode cMo_binder 8 = .ok (.aload_n 0, 1) := by decide +kernel
theorem dMo_binder_9 : decode cMo_binder 9 = .ok (.getfield 13, 3) := by decide +kernel
theorem dMo_binder_12 : decode cMo_binder 12 = .ok (.iload_n 2, 1) := by decide +kernel
theorem dMo_binder_13 : decode cMo_binder 13 = .ok (.iaload, 1) := by decide +kernel
theorem dMo_binder_14 : decode cMo_binder 14 = .ok (.iconst 5, 1) := by decide +kernel
theorem dMo_binder_15 : decode cMo_binder 15 = .ok (.if_icmp .ne 27, 3) := by decide +kernel
theorem dMo_binder_18 : decode cMo_binder 18 = .ok (.aload_n 0, 1) := by decide +kernel
theorem dMo_binder_19 : decode cMo_binder 19 = .ok (.getfield 17, 3) := by decide +kernel
theorem dMo_binder_22 : decode cMo_binder 22 = .ok (.iload_n 2, 1) := by decide +kernel
theorem dMo_binder_23 : decode cMo_binder 23 = .ok (.iaload, 1) := by decide +kernel
theorem dMo_binder_24 : decode cMo_binder 24 = .ok (.aload_n 0, 1) := by decide +kernel
theorem dMo_binder_25 : decode cMo_binder 25 = .ok (.getfield 17, 3) := by decide +kernel
theorem dMo_binder_28 : decode cMo_binder 28 = .ok (.iload_n 1, 1) := by decide +kernel
theorem dMo_binder_29 : decode cMo_binder 29 = .ok (.iaload, 1) := by decide +kernel
theorem dMo_binder_30 : decode cMo_binder 30 = .ok (.if_icmp .ne 12, 3) := by decide +kernel
theorem dMo_binder_33 : decode cMo_binder 33 = .ok (.aload_n 0, 1) := by decide +kernel
theorem dMo_binder_34 : decode cMo_binder 34 = .ok (.iload_n 2, 1) := by decide +kernel
theorem dMo_binder_35 : decode cMo_binder 35 = .ok (.invokevirtual 116, 3) := by decide +kernel
theorem dMo_binder_38 : decode cMo_binder 38 = .ok (.iload_n 1, 1) := by decide +kernel
theorem dMo_binder_39 : decode cMo_binder 39 = .ok (.if_icmp .gt 9, 3) := by decide +kernel
theorem dMo_binder_42 : decode cMo_binder 42 = .ok (.iinc 2 (-1), 3) := by decide +kernel
theorem dMo_binder_45 : decode cMo_binder 45 = .ok (.goto (-41), 3) := by decide +kernel
theorem dMo_binder_48 : decode cMo_binder 48 = .ok (.iload_n 2, 1) := by decide +kernel
theorem dMo_binder_49 : decode cMo_binder 49 = .ok (.ireturn, 1) := by decide +kernel
def f_Mo_binder_J48  (v1 : Int32) (v2 : Int32) (σ : Mem) : Option (Int32 × Mem) :=
  some (v2, σ)
def f_Mo_binder_J42  (v1 : Int32) (v2 : Int32) (σ : Mem) : Option ((Int32 × Mem) ⊕ (Int32 × Mem)) :=
  lt_ (v2 + (-1)) fun (x1 : Int32) =>
  some (.inl (x1, σ))
def f_Mo_binder_L4  (v1 : Int32) (v2 : Int32) (σ : Mem) : Option ((Int32 × Mem) ⊕ (Int32 × Mem)) :=
  if v2 < 0 then (
  inrM (f_Mo_binder_J48 v1 v2 σ))
  else (
  gd (inb v2 48) (
  if (σ.1 16 v2.toNatClampNeg) = (5 : Int32) then (
  gd (inb v2 48) (
  gd (inb v1 48) (
  if (σ.1 17 v2.toNatClampNeg) = (σ.1 17 v1.toNatClampNeg) then (
  bn (f_Mo_end v2 σ) fun (r8 : Int32) (σ7 : Mem) =>
  if v1 < r8 then (
  inrM (f_Mo_binder_J48 v1 v2 σ7))
  else (
  f_Mo_binder_J42 v1 v2 σ7))
  else (
  f_Mo_binder_J42 v1 v2 σ))))
  else (
  f_Mo_binder_J42 v1 v2 σ)))
def f_Mo_binder  (v1 : Int32) (σ : Mem) : Option (Int32 × Mem) :=
  lt_ (v1 - (1 : Int32)) fun (x10 : Int32) =>
  loopF (fun (q : (Int32 × Mem)) => f_Mo_binder_L4 v1 q.1 q.2) FU (x10, σ)
set_option maxHeartbeats 4000000 in
set_option maxRecDepth 100000 in
theorem c_Mo_binder (l : Launch) (g : Gw) (hg : wInj g) {v1 : Int32} {r0 : Int32} {σ σ0 : Mem} (h : f_Mo_binder v1 σ = some (r0, σ0)) : KI l yMo_binder cMo_binder 3 (some .int) 2 g [.ref (ad g 15), .int v1] σ r0 σ0 := by
  refine q_met g hg (own := "TermBenchModel") rfl rfl (Nat.le_of_ble_eq_true rfl) (fun p e s m args below meth c R Q cx hRk hr hQ H locs ls hP hS hl => ?_)
  have hx := cx.1
  have hb := cx.2.1
  have hown := cx.2.2.2.1
  have hts := cx.2.2.2.2.1
  have hl : lv_has ls 3 [(0, .ref (ad g 15)), (1, .int v1)] := hl
  have J48 : ∀ (v1 : Int32) (v2 : Int32) (σ : Mem), f_Mo_binder_J48 v1 v2 σ = some (r0, σ0) → ∀ (H : Heap) (locs : List Loc) (ls : Array Slot), lv_has ls 3 [(0, .ref (ad g 15)), (1, .int v1), (2, .int v2)] → Wd g σ H → va_S (wA g) s.heap H locs → W p l e R s m args below meth c H locs 0 0 Q (F0 m 48 ls []) := by
    intro v1 v2 σ h H locs ls hl hP hS
    unfold f_Mo_binder_J48 at h
    refine lv_iload_n hx hb dMo_binder_48 rfl (lv_at hl 2 rfl) ?_
    exact q_ri cx hr rfl hP hS hQ h dMo_binder_49
  unfold f_Mo_binder at h
  refine lv_iload_n hx hb dMo_binder_0 rfl (lv_at hl 1 rfl) ?_
  refine lv_iconst (v := 1) hx hb dMo_binder_1 (by decide) ?_
  refine lv_isub hx hb dMo_binder_2 ?_
  obtain ⟨x10, ex10, h⟩ := lt_some h
  refine q_nmi ex10 ?_
  refine lv_istore_n (lv' := [(2, .int x10), (0, .ref (ad g 15)), (1, .int v1)]) hx hb dMo_binder_3 rfl hl (Nat.le_of_ble_eq_true rfl) rfl (fun ls hl => ?_)
  have L4 : ∀ (n : Nat) (v1 : Int32) (v2 : Int32) (σ : Mem), loopF (fun (q : (Int32 × Mem)) => f_Mo_binder_L4 v1 q.1 q.2) n (v2, σ) = some (r0, σ0) → ∀ (H : Heap) (locs : List Loc) (ls : Array Slot), lv_has ls 3 [(0, .ref (ad g 15)), (1, .int v1), (2, .int v2)] → Wd g σ H → va_S (wA g) s.heap H locs → W p l e R s m args below meth c H locs 0 0 Q (F0 m 4 ls []) := by
    intro n
    induction n with
    | zero => intro v1 v2 σ h; exact (loopF_zero h).elim
    | succ n ih4 =>
      intro v1 v2 σ h H locs ls hl hP hS
      obtain ⟨o4, h, K4, E4⟩ := loopF_succ h
      have h : f_Mo_binder_L4 v1 v2 σ = some o4 := h
      have J42 : ∀ (v2 : Int32) (σ : Mem), f_Mo_binder_J42 v1 v2 σ = some o4 → ∀ (H : Heap) (locs : List Loc) (ls : Array Slot), lv_has ls 3 [(0, .ref (ad g 15)), (1, .int v1), (2, .int v2)] → Wd g σ H → va_S (wA g) s.heap H locs → W p l e R s m args below meth c H locs 0 0 Q (F0 m 42 ls []) := by
        intro v2 σ h H locs ls hl hP hS
        unfold f_Mo_binder_J42 at h
        obtain ⟨x1, ex1, h⟩ := lt_some h
        refine lv_iinc (lv' := [(2, .int x1), (0, .ref (ad g 15)), (1, .int v1)]) hx hb dMo_binder_42 hl (k := 2) rfl (q_inc ex1 (by decide)) (Nat.le_of_ble_eq_true rfl) rfl (fun ls hl => ?_)
        refine lv_goto (tgt := 4) hx hb dMo_binder_45 (by decide) ?_
        exact ih4 _ _ _ (K4 _ (Option.some.inj h).symm) _ _ _ (lv_sub hl [1, 2, 0] rfl) hP hS
      unfold f_Mo_binder_L4 at h
      refine lv_iload_n hx hb dMo_binder_4 rfl (lv_at hl 2 rfl) ?_
      refine lv_if_lt (tgt := 48) hx hb dMo_binder_5 (by decide) (fun hc => ?_) (fun hc => ?_)
      · replace h := if_t h hc
        obtain ⟨z2, h, ez2⟩ := inrM_some h
        rw [E4 z2 ez2] at h
        exact J48 _ _ _ h _ _ _ (lv_sub hl [0, 1, 2] rfl) hP hS
      · replace h := if_f h hc
        refine lv_aload_n hx hb dMo_binder_8 rfl (lv_at hl 0 rfl) ?_
        refine g_Mo_kinds cx hP  t_532 dMo_binder_9 ?_
        refine lv_iload_n hx hb dMo_binder_12 rfl (lv_at hl 2 rfl) ?_
        obtain ⟨b3, h⟩ := gd_some h
        refine q_iald cx hP (by decide) (e_16 g) b3 dMo_binder_13 ?_
        refine lv_iconst (v := 5) hx hb dMo_binder_14 (by decide) ?_
        refine lv_icmp_ne (tgt := 42) hx hb dMo_binder_15 (by decide) (fun hc => ?_) (fun hc => ?_)
        · replace h := if_f h hc
          exact J42 _ _ h _ _ _ (lv_sub hl [0, 1, 2] rfl) hP hS
        · replace h := if_t h hc
          refine lv_aload_n hx hb dMo_binder_18 rfl (lv_at hl 0 rfl) ?_
          refine g_Mo_values cx hP  t_533 dMo_binder_19 ?_
          refine lv_iload_n hx hb dMo_binder_22 rfl (lv_at hl 2 rfl) ?_
          obtain ⟨b4, h⟩ := gd_some h
          refine q_iald cx hP (by decide) (e_17 g) b4 dMo_binder_23 ?_
          refine lv_aload_n hx hb dMo_binder_24 rfl (lv_at hl 0 rfl) ?_
          refine g_Mo_values cx hP  t_533 dMo_binder_25 ?_
          refine lv_iload_n hx hb dMo_binder_28 rfl (lv_at hl 1 rfl) ?_
          obtain ⟨b5, h⟩ := gd_some h
          refine q_iald cx hP (by decide) (e_17 g) b5 dMo_binder_29 ?_
          refine lv_icmp_ne (tgt := 42) hx hb dMo_binder_30 (by decide) (fun hc => ?_) (fun hc => ?_)
          · replace h := if_f h hc
            exact J42 _ _ h _ _ _ (lv_sub hl [0, 1, 2] rfl) hP hS
          · replace h := if_t h hc
            refine lv_aload_n hx hb dMo_binder_33 rfl (lv_at hl 0 rfl) ?_
            refine lv_iload_n hx hb dMo_binder_34 rfl (lv_at hl 2 rfl) ?_
            obtain ⟨r8, σ7, h6, h⟩ := bn_some h
            refine q_cVi (rest := []) (As := [.int v2]) cx hP hS hRk (c_Mo_end l g hg h6) Y_Mo_end V_Mo_end t_689 (by decide) (by decide) (e_15 g _ _) rfl rfl hl.1 rfl (Nat.le_of_ble_eq_true rfl) dMo_binder_35 (fun H locs hP hS => ?_)
            refine lv_iload_n hx hb dMo_binder_38 rfl (lv_at hl 1 rfl) ?_
            refine lv_icmp_gt (tgt := 48) hx hb dMo_binder_39 (by decide) (fun hc => ?_) (fun hc => ?_)
            · replace h := if_t h hc
              obtain ⟨z9, h, ez9⟩ := inrM_some h
              rw [E4 z9 ez9] at h
              exact J48 _ _ _ h _ _ _ (lv_sub hl [0, 1, 2] rfl) hP hS
            · replace h := if_f h hc
              exact J42 _ _ h _ _ _ (lv_sub hl [0, 1, 2] rfl) hP hS
  exact L4 _ _ _ _ h _ _ _ (lv_sub hl [1, 2, 0] rfl) hP hS
theorem dMo_gotOf_0 : decode cMo_gotOf 0 = .ok (.aload_n 0, 1) := by decide +kernel
theorem dMo_gotOf_1 : decode cMo_gotOf 1 = .ok (.getfield 13, 3) := by decide +kernel
theorem dMo_gotOf_4 : decode cMo_gotOf 4 = .ok (.iload_n 1, 1) := by decide +kernel
theorem dMo_gotOf_5 : decode cMo_gotOf 5 = .ok (.iaload, 1) := by decide +kernel
theorem dMo_gotOf_6 : decode cMo_gotOf 6 = .ok (.istore_n 2, 1) := by decide +kernel
theorem dMo_gotOf_7 : decode cMo_gotOf 7 = .ok (.iload_n 2, 1) := by decide +kernel
theorem dMo_gotOf_8 : decode cMo_gotOf 8 = .ok (.ifCond .ne 5, 3) := by decide +kernel
theorem dMo_gotOf_11 : decode cMo_gotOf 11 = .ok (.lconst 1, 1) := by decide +kernel
theorem dMo_gotOf_12 : decode cMo_gotOf 12 = .ok (.lreturn, 1) := by decide +kernel
theorem dMo_gotOf_13 : decode cMo_gotOf 13 = .ok (.iload_n 2, 1) := by decide +kernel
theorem dMo_gotOf_14 : decode cMo_gotOf 14 = .ok (.iconst 1, 1) := by decide +kernel
theorem dMo_gotOf_15 : decode cMo_gotOf 15 = .ok (.if_icmp .eq 8, 3) := by decide +kernel
theorem dMo_gotOf_18 : decode cMo_gotOf 18 = .ok (.iload_n 2, 1) := by decide +kernel
theorem dMo_gotOf_19 : decode cMo_gotOf 19 = .ok (.iconst 3, 1) := by decide +kernel
theorem dMo_gotOf_20 : decode cMo_gotOf 20 = .ok (.if_icmp .ne 7, 3) := by decide +kernel
theorem dMo_gotOf_23 : decode cMo_gotOf 23 = .ok (.ldc2_w 203, 3) := by decide +kernel
theorem dMo_gotOf_26 : decode cMo_gotOf 26 = .ok (.lreturn, 1) := by decide +kernel
theorem dMo_gotOf_27 : decode cMo_gotOf 27 = .ok (.iload_n 2, 1) := by decide +kernel
theorem dMo_gotOf_28 : decode cMo_gotOf 28 = .ok (.iconst 2, 1) := by decide +kernel
theorem dMo_gotOf_29 : decode cMo_gotOf 29 = .ok (.if_icmp .ne 24, 3) := by decide +kernel
theorem dMo_gotOf_32 : decode cMo_gotOf 32 = .ok (.aload_n 0, 1) := by decide +kernel
theorem dMo_gotOf_33 : decode cMo_gotOf 33 = .ok (.iload_n 1, 1) := by decide +kernel
theorem dMo_gotOf_34 : decode cMo_gotOf 34 = .ok (.invokevirtual 205, 3) := by decide +kernel
theorem dMo_gotOf_37 : decode cMo_gotOf 37 = .ok (.istore_n 3, 1) := by decide +kernel
theorem dMo_gotOf_38 : decode cMo_gotOf 38 = .ok (.iload_n 3, 1) := by decide +kernel
theorem dMo_gotOf_39 : decode cMo_gotOf 39 = .ok (.ifCond .ge 7, 3) := by decide +kernel
theorem dMo_gotOf_42 : decode cMo_gotOf 42 = .ok (.lconst 1, 1) := by decide +kernel
theorem dMo_gotOf_43 : decode cMo_gotOf 43 = .ok (.goto 9, 3) := by decide +kernel
theorem dMo_gotOf_46 : decode cMo_gotOf 46 = .ok (.aload_n 0, 1) := by decide +kernel
theorem dMo_gotOf_47 : decode cMo_gotOf 47 = .ok (.getfield 20, 3) := by decide +kernel
theorem dMo_gotOf_50 : decode cMo_gotOf 50 = .ok (.iload_n 3, 1) := by decide +kernel
theorem dMo_gotOf_51 : decode cMo_gotOf 51 = .ok (.laload, 1) := by decide +kernel
theorem dMo_gotOf_52 : decode cMo_gotOf 52 = .ok (.lreturn, 1) := by decide +kernel
theorem dMo_gotOf_53 : decode cMo_gotOf 53 = .ok (.iload_n 2, 1) := by decide +kernel
theorem dMo_gotOf_54 : decode cMo_gotOf 54 = .ok (.iconst 4, 1) := by decide +kernel
theorem dMo_gotOf_55 : decode cMo_gotOf 55 = .ok (.if_icmp .ne 27, 3) := by decide +kernel
theorem dMo_gotOf_58 : decode cMo_gotOf 58 = .ok (.aload_n 0, 1) := by decide +kernel
theorem dMo_gotOf_59 : decode cMo_gotOf 59 = .ok (.iload_n 1, 1) := by decide +kernel
theorem dMo_gotOf_60 : decode cMo_gotOf 60 = .ok (.iconst 1, 1) := by decide +kernel
theorem dMo_gotOf_61 : decode cMo_gotOf 61 = .ok (.iadd, 1) := by decide +kernel
theorem dMo_gotOf_62 : decode cMo_gotOf 62 = .ok (.invokevirtual 208, 3) := by decide +kernel
theorem dMo_gotOf_65 : decode cMo_gotOf 65 = .ok (.lstore_n 3, 1) := by decide +kernel
theorem dMo_gotOf_66 : decode cMo_gotOf 66 = .ok (.lload_n 3, 1) := by decide +kernel
theorem dMo_gotOf_67 : decode cMo_gotOf 67 = .ok (.invokestatic 212, 3) := by decide +kernel
theorem dMo_gotOf_70 : decode cMo_gotOf 70 = .ok (.ifCond .eq 10, 3) := by decide +kernel
theorem dMo_gotOf_73 : decode cMo_gotOf 73 = .ok (.lload_n 3, 1) := by decide +kernel
theorem dMo_gotOf_74 : decode cMo_gotOf 74 = .ok (.invokestatic 215, 3) := by decide +kernel
theorem dMo_gotOf_77 : decode cMo_gotOf 77 = .ok (.goto 4, 3) := by decide +kernel
theorem dMo_gotOf_80 : decode cMo_gotOf 80 = .ok (.lconst 1, 1) := by decide +kernel
theorem dMo_gotOf_81 : decode cMo_gotOf 81 = .ok (.lreturn, 1) := by decide +kernel
theorem dMo_gotOf_82 : decode cMo_gotOf 82 = .ok (.iload_n 2, 1) := by decide +kernel
theorem dMo_gotOf_83 : decode cMo_gotOf 83 = .ok (.bipush 6, 2) := by decide +kernel
theorem dMo_gotOf_85 : decode cMo_gotOf 85 = .ok (.if_icmp .ne 12, 3) := by decide +kernel
theorem dMo_gotOf_88 : decode cMo_gotOf 88 = .ok (.aload_n 0, 1) := by decide +kernel
theorem dMo_gotOf_89 : decode cMo_gotOf 89 = .ok (.getfield 20, 3) := by decide +kernel
theorem dMo_gotOf_92 : decode cMo_gotOf 92 = .ok (.iload_n 1, 1) := by decide +kernel
theorem dMo_gotOf_93 : decode cMo_gotOf 93 = .ok (.laload, 1) := by decide +kernel
theorem dMo_gotOf_94 : decode cMo_gotOf 94 = .ok (.goto 19, 3) := by decide +kernel
theorem dMo_gotOf_97 : decode cMo_gotOf 97 = .ok (.aload_n 0, 1) := by decide +kernel
theorem dMo_gotOf_98 : decode cMo_gotOf 98 = .ok (.getfield 20, 3) := by decide +kernel
theorem dMo_gotOf_101 : decode cMo_gotOf 101 = .ok (.iload_n 1, 1) := by decide +kernel
theorem dMo_gotOf_102 : decode cMo_gotOf 102 = .ok (.laload, 1) := by decide +kernel
theorem dMo_gotOf_103 : decode cMo_gotOf 103 = .ok (.aload_n 0, 1) := by decide +kernel
theorem dMo_gotOf_104 : decode cMo_gotOf 104 = .ok (.iload_n 1, 1) := by decide +kernel
theorem dMo_gotOf_105 : decode cMo_gotOf 105 = .ok (.iconst 1, 1) := by decide +kernel
theorem dMo_gotOf_106 : decode cMo_gotOf 106 = .ok (.iadd, 1) := by decide +kernel
theorem dMo_gotOf_107 : decode cMo_gotOf 107 = .ok (.invokevirtual 208, 3) := by decide +kernel
theorem dMo_gotOf_110 : decode cMo_gotOf 110 = .ok (.invokestatic 219, 3) := by decide +kernel
theorem dMo_gotOf_113 : decode cMo_gotOf 113 = .ok (.lreturn, 1) := by decide +kernel
def f_Mo_gotOf_J113  (v1 : Int32) (v2 : Int32) (u0 : Int64) (σ : Mem) : Option (Int64 × Mem) :=
  some (u0, σ)
def f_Mo_gotOf_J81  (v1 : Int32) (v2 : Int32) (v3 : Int64) (u0 : Int64) (σ : Mem) : Option (Int64 × Mem) :=
  some (u0, σ)
def f_Mo_gotOf_J52  (v1 : Int32) (v2 : Int32) (v3 : Int32) (u0 : Int64) (σ : Mem) : Option (Int64 × Mem) :=
  some (u0, σ)
def f_Mo_gotOf_J23  (v1 : Int32) (v2 : Int32) (σ : Mem) : Option (Int64 × Mem) :=
  some ((2 : Int64), σ)
def f_Mo_gotOf  (v1 : Int32) (σ : Mem) : Option (Int64 × Mem) :=
  gd (inb v1 48) (
  lt_ (σ.1 16 v1.toNatClampNeg) fun (x2 : Int32) =>
  if x2 = 0 then (
  some ((1 : Int64), σ))
  else (
  if x2 = (1 : Int32) then (
  f_Mo_gotOf_J23 v1 x2 σ)
  else (
  if x2 = (3 : Int32) then (
  f_Mo_gotOf_J23 v1 x2 σ)
  else (
  if x2 = (2 : Int32) then (
  bn (f_Mo_binder v1 σ) fun (r22 : Int32) (σ21 : Mem) =>
  if 0 ≤ r22 then (
  gd (inb r22 48) (
  f_Mo_gotOf_J52 v1 x2 r22 (σ21.2 18 r22.toNatClampNeg) σ21))
  else (
  f_Mo_gotOf_J52 v1 x2 r22 (1 : Int64) σ21))
  else (
  if x2 = (4 : Int32) then (
  bn (f_Mo_has (v1 + (1 : Int32)) σ) fun (r13 : Int64) (σ12 : Mem) =>
  bn (f_Mo_isFrom r13 σ12) fun (r16 : Int32) (σ15 : Mem) =>
  if r16 = 0 then (
  f_Mo_gotOf_J81 v1 x2 r13 (1 : Int64) σ15)
  else (
  bn (f_Mo_secondOf r13 σ15) fun (r19 : Int64) (σ18 : Mem) =>
  f_Mo_gotOf_J81 v1 x2 r13 r19 σ18))
  else (
  if x2 = (6 : Int32) then (
  gd (inb v1 48) (
  f_Mo_gotOf_J113 v1 x2 (σ.2 18 v1.toNatClampNeg) σ))
  else (
  gd (inb v1 48) (
  bn (f_Mo_has (v1 + (1 : Int32)) σ) fun (r6 : Int64) (σ5 : Mem) =>
  bn (f_Mo_from (σ.2 18 v1.toNatClampNeg) r6 σ5) fun (r9 : Int64) (σ8 : Mem) =>
  f_Mo_gotOf_J113 v1 x2 r9 σ8))))))))
set_option maxHeartbeats 4000000 in
set_option maxRecDepth 100000 in
theorem c_Mo_gotOf (l : Launch) (g : Gw) (hg : wInj g) {v1 : Int32} {r0 : Int64} {σ σ0 : Mem} (h : f_Mo_gotOf v1 σ = some (r0, σ0)) : KL l yMo_gotOf cMo_gotOf 5 (some .long) 3 g [.ref (ad g 15), .int v1] σ r0 σ0 := by
  refine q_met g hg (own := "TermBenchModel") rfl rfl (Nat.le_of_ble_eq_true rfl) (fun p e s m args below meth c R Q cx hRk hr hQ H locs ls hP hS hl => ?_)
  have hx := cx.1
  have hb := cx.2.1
  have hown := cx.2.2.2.1
  have hts := cx.2.2.2.2.1
  have hl : lv_has ls 5 [(0, .ref (ad g 15)), (1, .int v1)] := hl
  have J113 : ∀ (v1 : Int32) (v2 : Int32) (u0 : Int64) (σ : Mem), f_Mo_gotOf_J113 v1 v2 u0 σ = some (r0, σ0) → ∀ (H : Heap) (locs : List Loc) (ls : Array Slot), lv_has ls 5 [(0, .ref (ad g 15)), (1, .int v1), (2, .int v2)] → Wd g σ H → va_S (wA g) s.heap H locs → W p l e R s m args below meth c H locs 0 0 Q (F0 m 113 ls [.long u0]) := by
    intro v1 v2 u0 σ h H locs ls hl hP hS
    unfold f_Mo_gotOf_J113 at h
    exact q_rl cx hr hP hS hQ h dMo_gotOf_113
  have J81 : ∀ (v1 : Int32) (v2 : Int32) (v3 : Int64) (u0 : Int64) (σ : Mem), f_Mo_gotOf_J81 v1 v2 v3 u0 σ = some (r0, σ0) → ∀ (H : Heap) (locs : List Loc) (ls : Array Slot), lv_has ls 5 [(0, .ref (ad g 15)), (1, .int v1), (2, .int v2), (3, .long v3)] → Wd g σ H → va_S (wA g) s.heap H locs → W p l e R s m args below meth c H locs 0 0 Q (F0 m 81 ls [.long u0]) := by
    intro v1 v2 v3 u0 σ h H locs ls hl hP hS
    unfold f_Mo_gotOf_J81 at h
    exact q_rl cx hr hP hS hQ h dMo_gotOf_81
  have J52 : ∀ (v1 : Int32) (v2 : Int32) (v3 : Int32) (u0 : Int64) (σ : Mem), f_Mo_gotOf_J52 v1 v2 v3 u0 σ = some (r0, σ0) → ∀ (H : Heap) (locs : List Loc) (ls : Array Slot), lv_has ls 5 [(0, .ref (ad g 15)), (1, .int v1), (2, .int v2), (3, .int v3)] → Wd g σ H → va_S (wA g) s.heap H locs → W p l e R s m args below meth c H locs 0 0 Q (F0 m 52 ls [.long u0]) := by
    intro v1 v2 v3 u0 σ h H locs ls hl hP hS
    unfold f_Mo_gotOf_J52 at h
    exact q_rl cx hr hP hS hQ h dMo_gotOf_52
  have J23 : ∀ (v1 : Int32) (v2 : Int32) (σ : Mem), f_Mo_gotOf_J23 v1 v2 σ = some (r0, σ0) → ∀ (H : Heap) (locs : List Loc) (ls : Array Slot), lv_has ls 5 [(0, .ref (ad g 15)), (1, .int v1), (2, .int v2)] → Wd g σ H → va_S (wA g) s.heap H locs → W p l e R s m args below meth c H locs 0 0 Q (F0 m 23 ls []) := by
    intro v1 v2 σ h H locs ls hl hP hS
    unfold f_Mo_gotOf_J23 at h
    refine lv_ldc2 (own := "TermBenchModel") (index := 203) (v := 2) hx hb hown (hts _ t_826) dMo_gotOf_23 ?_
    exact q_rl cx hr hP hS hQ h dMo_gotOf_26
  unfold f_Mo_gotOf at h
  refine lv_aload_n hx hb dMo_gotOf_0 rfl (lv_at hl 0 rfl) ?_
  refine g_Mo_kinds cx hP  t_532 dMo_gotOf_1 ?_
  refine lv_iload_n hx hb dMo_gotOf_4 rfl (lv_at hl 1 rfl) ?_
  obtain ⟨b1, h⟩ := gd_some h
  refine q_iald cx hP (by decide) (e_16 g) b1 dMo_gotOf_5 ?_
  obtain ⟨x2, ex2, h⟩ := lt_some h
  refine q_nmi ex2 ?_
  refine lv_istore_n (lv' := [(2, .int x2), (0, .ref (ad g 15)), (1, .int v1)]) hx hb dMo_gotOf_6 rfl hl (Nat.le_of_ble_eq_true rfl) rfl (fun ls hl => ?_)
  refine lv_iload_n hx hb dMo_gotOf_7 rfl (lv_at hl 0 rfl) ?_
  refine lv_if_ne (tgt := 13) hx hb dMo_gotOf_8 (by decide) (fun hc => ?_) (fun hc => ?_)
  · replace h := if_f h hc
    refine lv_iload_n hx hb dMo_gotOf_13 rfl (lv_at hl 0 rfl) ?_
    refine lv_iconst (v := 1) hx hb dMo_gotOf_14 (by decide) ?_
    refine lv_icmp_eq (tgt := 23) hx hb dMo_gotOf_15 (by decide) (fun hc => ?_) (fun hc => ?_)
    · replace h := if_t h hc
      exact J23 _ _ _ h _ _ _ (lv_sub hl [1, 2, 0] rfl) hP hS
    · replace h := if_f h hc
      refine lv_iload_n hx hb dMo_gotOf_18 rfl (lv_at hl 0 rfl) ?_
      refine lv_iconst (v := 3) hx hb dMo_gotOf_19 (by decide) ?_
      refine lv_icmp_ne (tgt := 27) hx hb dMo_gotOf_20 (by decide) (fun hc => ?_) (fun hc => ?_)
      · replace h := if_f h hc
        refine lv_iload_n hx hb dMo_gotOf_27 rfl (lv_at hl 0 rfl) ?_
        refine lv_iconst (v := 2) hx hb dMo_gotOf_28 (by decide) ?_
        refine lv_icmp_ne (tgt := 53) hx hb dMo_gotOf_29 (by decide) (fun hc => ?_) (fun hc => ?_)
        · replace h := if_f h hc
          refine lv_iload_n hx hb dMo_gotOf_53 rfl (lv_at hl 0 rfl) ?_
          refine lv_iconst (v := 4) hx hb dMo_gotOf_54 (by decide) ?_
          refine lv_icmp_ne (tgt := 82) hx hb dMo_gotOf_55 (by decide) (fun hc => ?_) (fun hc => ?_)
          · replace h := if_f h hc
            refine lv_iload_n hx hb dMo_gotOf_82 rfl (lv_at hl 0 rfl) ?_
            refine lv_bipush (v := 6) hx hb dMo_gotOf_83 (by decide) ?_
            refine lv_icmp_ne (tgt := 97) hx hb dMo_gotOf_85 (by decide) (fun hc => ?_) (fun hc => ?_)
            · replace h := if_f h hc
              refine lv_aload_n hx hb dMo_gotOf_97 rfl (lv_at hl 1 rfl) ?_
              refine g_Mo_types cx hP  t_534 dMo_gotOf_98 ?_
              refine lv_iload_n hx hb dMo_gotOf_101 rfl (lv_at hl 2 rfl) ?_
              obtain ⟨b3, h⟩ := gd_some h
              refine q_lald cx hP (by decide) (e_18 g) b3 dMo_gotOf_102 ?_
              refine lv_aload_n hx hb dMo_gotOf_103 rfl (lv_at hl 1 rfl) ?_
              refine lv_iload_n hx hb dMo_gotOf_104 rfl (lv_at hl 2 rfl) ?_
              refine lv_iconst (v := 1) hx hb dMo_gotOf_105 (by decide) ?_
              refine lv_iadd hx hb dMo_gotOf_106 ?_
              obtain ⟨r6, σ5, h4, h⟩ := bn_some h
              refine q_cVl (rest := [.long (σ.2 18 v1.toNatClampNeg)]) (As := [.int (v1 + (1 : Int32))]) cx hP hS hRk (c_Mo_has l g hg h4) Y_Mo_has V_Mo_has t_836 (by decide) (by decide) (e_15 g _ _) rfl rfl hl.1 rfl (Nat.le_of_ble_eq_true rfl) dMo_gotOf_107 (fun H locs hP hS => ?_)
              obtain ⟨r9, σ8, h7, h⟩ := bn_some h
              refine q_cSl (rest := []) (As := [.long (σ.2 18 v1.toNatClampNeg), .long r6]) cx hP hS hRk (c_Mo_from l g hg h7) Y_Mo_from S_Mo_from t_851 (by decide) rfl hl.1 rfl (Nat.le_of_ble_eq_true rfl) dMo_gotOf_110 (fun H locs hP hS => ?_)
              exact J113 _ _ _ _ h _ _ _ (lv_sub hl [1, 2, 0] rfl) hP hS
            · replace h := if_t h hc
              refine lv_aload_n hx hb dMo_gotOf_88 rfl (lv_at hl 1 rfl) ?_
              refine g_Mo_types cx hP  t_534 dMo_gotOf_89 ?_
              refine lv_iload_n hx hb dMo_gotOf_92 rfl (lv_at hl 2 rfl) ?_
              obtain ⟨b10, h⟩ := gd_some h
              refine q_lald cx hP (by decide) (e_18 g) b10 dMo_gotOf_93 ?_
              refine lv_goto (tgt := 113) hx hb dMo_gotOf_94 (by decide) ?_
              exact J113 _ _ _ _ h _ _ _ (lv_sub hl [1, 2, 0] rfl) hP hS
          · replace h := if_t h hc
            refine lv_aload_n hx hb dMo_gotOf_58 rfl (lv_at hl 1 rfl) ?_
            refine lv_iload_n hx hb dMo_gotOf_59 rfl (lv_at hl 2 rfl) ?_
            refine lv_iconst (v := 1) hx hb dMo_gotOf_60 (by decide) ?_
            refine lv_iadd hx hb dMo_gotOf_61 ?_
            obtain ⟨r13, σ12, h11, h⟩ := bn_some h
            refine q_cVl (rest := []) (As := [.int (v1 + (1 : Int32))]) cx hP hS hRk (c_Mo_has l g hg h11) Y_Mo_has V_Mo_has t_836 (by decide) (by decide) (e_15 g _ _) rfl rfl hl.1 rfl (Nat.le_of_ble_eq_true rfl) dMo_gotOf_62 (fun H locs hP hS => ?_)
            refine lv_lstore_n (lv' := [(3, .long r13), (2, .int x2), (0, .ref (ad g 15)), (1, .int v1)]) hx hb dMo_gotOf_65 rfl hl (Nat.le_of_ble_eq_true rfl) rfl (fun ls hl => ?_)
            refine lv_lload_n hx hb dMo_gotOf_66 rfl (lv_at hl 0 rfl) ?_
            obtain ⟨r16, σ15, h14, h⟩ := bn_some h
            refine q_cSi (rest := []) (As := [.long r13]) cx hP hS hRk (c_Mo_isFrom l g hg h14) Y_Mo_isFrom S_Mo_isFrom t_827 (by decide) rfl hl.1 rfl (Nat.le_of_ble_eq_true rfl) dMo_gotOf_67 (fun H locs hP hS => ?_)
            refine lv_if_eq (tgt := 80) hx hb dMo_gotOf_70 (by decide) (fun hc => ?_) (fun hc => ?_)
            · replace h := if_t h hc
              refine lv_lconst (v := 1) hx hb dMo_gotOf_80 rfl ?_
              exact J81 _ _ _ _ _ h _ _ _ (lv_sub hl [2, 3, 1, 0] rfl) hP hS
            · replace h := if_f h hc
              refine lv_lload_n hx hb dMo_gotOf_73 rfl (lv_at hl 0 rfl) ?_
              obtain ⟨r19, σ18, h17, h⟩ := bn_some h
              refine q_cSl (rest := []) (As := [.long r13]) cx hP hS hRk (c_Mo_secondOf l g hg h17) Y_Mo_secondOf S_Mo_secondOf t_830 (by decide) rfl hl.1 rfl (Nat.le_of_ble_eq_true rfl) dMo_gotOf_74 (fun H locs hP hS => ?_)
              refine lv_goto (tgt := 81) hx hb dMo_gotOf_77 (by decide) ?_
              exact J81 _ _ _ _ _ h _ _ _ (lv_sub hl [2, 3, 1, 0] rfl) hP hS
        · replace h := if_t h hc
          refine lv_aload_n hx hb dMo_gotOf_32 rfl (lv_at hl 1 rfl) ?_
          refine lv_iload_n hx hb dMo_gotOf_33 rfl (lv_at hl 2 rfl) ?_
          obtain ⟨r22, σ21, h20, h⟩ := bn_some h
          refine q_cVi (rest := []) (As := [.int v1]) cx hP hS hRk (c_Mo_binder l g hg h20) Y_Mo_binder V_Mo_binder t_847 (by decide) (by decide) (e_15 g _ _) rfl rfl hl.1 rfl (Nat.le_of_ble_eq_true rfl) dMo_gotOf_34 (fun H locs hP hS => ?_)
          refine lv_istore_n (lv' := [(3, .int r22), (2, .int x2), (0, .ref (ad g 15)), (1, .int v1)]) hx hb dMo_gotOf_37 rfl hl (Nat.le_of_ble_eq_true rfl) rfl (fun ls hl => ?_)
          refine lv_iload_n hx hb dMo_gotOf_38 rfl (lv_at hl 0 rfl) ?_
          refine lv_if_ge (tgt := 46) hx hb dMo_gotOf_39 (by decide) (fun hc => ?_) (fun hc => ?_)
          · replace h := if_t h hc
            refine lv_aload_n hx hb dMo_gotOf_46 rfl (lv_at hl 2 rfl) ?_
            refine g_Mo_types cx hP  t_534 dMo_gotOf_47 ?_
            refine lv_iload_n hx hb dMo_gotOf_50 rfl (lv_at hl 0 rfl) ?_
            obtain ⟨b23, h⟩ := gd_some h
            refine q_lald cx hP (by decide) (e_18 g) b23 dMo_gotOf_51 ?_
            exact J52 _ _ _ _ _ h _ _ _ (lv_sub hl [2, 3, 1, 0] rfl) hP hS
          · replace h := if_f h hc
            refine lv_lconst (v := 1) hx hb dMo_gotOf_42 rfl ?_
            refine lv_goto (tgt := 52) hx hb dMo_gotOf_43 (by decide) ?_
            exact J52 _ _ _ _ _ h _ _ _ (lv_sub hl [2, 3, 1, 0] rfl) hP hS
      · replace h := if_t h hc
        exact J23 _ _ _ h _ _ _ (lv_sub hl [1, 2, 0] rfl) hP hS
  · replace h := if_t h hc
    refine lv_lconst (v := 1) hx hb dMo_gotOf_11 rfl ?_
    exact q_rl cx hr hP hS hQ h dMo_gotOf_12
theorem dMo_markOf_0 : decode cMo_markOf 0 = .ok (.aload_n 0, 1) := by decide +kernel
theorem dMo_markOf_1 : decode cMo_markOf 1 = .ok (.getfield 13, 3) := by decide +kernel
theorem dMo_markOf_4 : decode cMo_markOf 4 = .ok (.iload_n 1, 1) := by decide +kernel
theorem dMo_markOf_5 : decode cMo_markOf 5 = .ok (.iaload, 1) := by decide +kernel
theorem dMo_markOf_6 : decode cMo_markOf 6 = .ok (.istore_n 2, 1) := by decide +kernel
theorem dMo_markOf_7 : decode cMo_markOf 7 = .ok (.iload_n 2, 1) := by decide +kernel
theorem dMo_markOf_8 : decode cMo_markOf 8 = .ok (.iconst 2, 1) := by decide +kernel
theorem dMo_markOf_9 : decode cMo_markOf 9 = .ok (.if_icmp .ne 13, 3) := by decide +kernel
theorem dMo_markOf_12 : decode cMo_markOf 12 = .ok (.aload_n 0, 1) := by decide +kernel
theorem dMo_markOf_13 : decode cMo_markOf 13 = .ok (.iload_n 1, 1) := by decide +kernel
theorem dMo_markOf_14 : decode cMo_markOf 14 = .ok (.invokevirtual 205, 3) := by decide +kernel
theorem dMo_markOf_17 : decode cMo_markOf 17 = .ok (.ifCond .ge 5, 3) := by decide +kernel
theorem dMo_markOf_20 : decode cMo_markOf 20 = .ok (.iconst 1, 1) := by decide +kernel
theorem dMo_markOf_21 : decode cMo_markOf 21 = .ok (.ireturn, 1) := by decide +kernel
theorem dMo_markOf_22 : decode cMo_markOf 22 = .ok (.iload_n 2, 1) := by decide +kernel
theorem dMo_markOf_23 : decode cMo_markOf 23 = .ok (.iconst 4, 1) := by decide +kernel
theorem dMo_markOf_24 : decode cMo_markOf 24 = .ok (.if_icmp .ne 19, 3) := by decide +kernel
theorem dMo_markOf_27 : decode cMo_markOf 27 = .ok (.aload_n 0, 1) := by decide +kernel
theorem dMo_markOf_28 : decode cMo_markOf 28 = .ok (.iload_n 1, 1) := by decide +kernel
theorem dMo_markOf_29 : decode cMo_markOf 29 = .ok (.iconst 1, 1) := by decide +kernel
theorem dMo_markOf_30 : decode cMo_markOf 30 = .ok (.iadd, 1) := by decide +kernel
theorem dMo_markOf_31 : decode cMo_markOf 31 = .ok (.invokevirtual 208, 3) := by decide +kernel
theorem dMo_markOf_34 : decode cMo_markOf 34 = .ok (.ldc2_w 203, 3) := by decide +kernel
theorem dMo_markOf_37 : decode cMo_markOf 37 = .ok (.lcmp, 1) := by decide +kernel
theorem dMo_markOf_38 : decode cMo_markOf 38 = .ok (.ifCond .ne 5, 3) := by decide +kernel
theorem dMo_markOf_41 : decode cMo_markOf 41 = .ok (.iconst 2, 1) := by decide +kernel
theorem dMo_markOf_42 : decode cMo_markOf 42 = .ok (.ireturn, 1) := by decide +kernel
theorem dMo_markOf_43 : decode cMo_markOf 43 = .ok (.iload_n 2, 1) := by decide +kernel
theorem dMo_markOf_44 : decode cMo_markOf 44 = .ok (.iconst 5, 1) := by decide +kernel
theorem dMo_markOf_45 : decode cMo_markOf 45 = .ok (.if_icmp .ne 38, 3) := by decide +kernel
theorem dMo_markOf_48 : decode cMo_markOf 48 = .ok (.aload_n 0, 1) := by decide +kernel
theorem dMo_markOf_49 : decode cMo_markOf 49 = .ok (.getfield 42, 3) := by decide +kernel
theorem dMo_markOf_52 : decode cMo_markOf 52 = .ok (.iload_n 1, 1) := by decide +kernel
theorem dMo_markOf_53 : decode cMo_markOf 53 = .ok (.laload, 1) := by decide +kernel
theorem dMo_markOf_54 : decode cMo_markOf 54 = .ok (.invokestatic 212, 3) := by decide +kernel
theorem dMo_markOf_57 : decode cMo_markOf 57 = .ok (.ifCond .eq 26, 3) := by decide +kernel
theorem dMo_markOf_60 : decode cMo_markOf 60 = .ok (.aload_n 0, 1) := by decide +kernel
theorem dMo_markOf_61 : decode cMo_markOf 61 = .ok (.getfield 20, 3) := by decide +kernel
theorem dMo_markOf_64 : decode cMo_markOf 64 = .ok (.iload_n 1, 1) := by decide +kernel
theorem dMo_markOf_65 : decode cMo_markOf 65 = .ok (.laload, 1) := by decide +kernel
theorem dMo_markOf_66 : decode cMo_markOf 66 = .ok (.aload_n 0, 1) := by decide +kernel
theorem dMo_markOf_67 : decode cMo_markOf 67 = .ok (.getfield 42, 3) := by decide +kernel
theorem dMo_markOf_70 : decode cMo_markOf 70 = .ok (.iload_n 1, 1) := by decide +kernel
theorem dMo_markOf_71 : decode cMo_markOf 71 = .ok (.laload, 1) := by decide +kernel
theorem dMo_markOf_72 : decode cMo_markOf 72 = .ok (.invokestatic 223, 3) := by decide +kernel
theorem dMo_markOf_75 : decode cMo_markOf 75 = .ok (.invokestatic 226, 3) := by decide +kernel
theorem dMo_markOf_78 : decode cMo_markOf 78 = .ok (.ifCond .ne 5, 3) := by decide +kernel
theorem dMo_markOf_81 : decode cMo_markOf 81 = .ok (.iconst 3, 1) := by decide +kernel
theorem dMo_markOf_82 : decode cMo_markOf 82 = .ok (.ireturn, 1) := by decide +kernel
theorem dMo_markOf_83 : decode cMo_markOf 83 = .ok (.aload_n 0, 1) := by decide +kernel
theorem dMo_markOf_84 : decode cMo_markOf 84 = .ok (.getfield 42, 3) := by decide +kernel
theorem dMo_markOf_87 : decode cMo_markOf 87 = .ok (.iload_n 1, 1) := by decide +kernel
theorem dMo_markOf_88 : decode cMo_markOf 88 = .ok (.laload, 1) := by decide +kernel
theorem dMo_markOf_89 : decode cMo_markOf 89 = .ok (.lconst 0, 1) := by decide +kernel
theorem dMo_markOf_90 : decode cMo_markOf 90 = .ok (.lcmp, 1) := by decide +kernel
theorem dMo_markOf_91 : decode cMo_markOf 91 = .ok (.ifCond .eq 25, 3) := by decide +kernel
theorem dMo_markOf_94 : decode cMo_markOf 94 = .ok (.aload_n 0, 1) := by decide +kernel
theorem dMo_markOf_95 : decode cMo_markOf 95 = .ok (.getfield 39, 3) := by decide +kernel
theorem dMo_markOf_98 : decode cMo_markOf 98 = .ok (.iload_n 1, 1) := by decide +kernel
theorem dMo_markOf_99 : decode cMo_markOf 99 = .ok (.laload, 1) := by decide +kernel
theorem dMo_markOf_100 : decode cMo_markOf 100 = .ok (.aload_n 0, 1) := by decide +kernel
theorem dMo_markOf_101 : decode cMo_markOf 101 = .ok (.getfield 42, 3) := by decide +kernel
theorem dMo_markOf_104 : decode cMo_markOf 104 = .ok (.iload_n 1, 1) := by decide +kernel
theorem dMo_markOf_105 : decode cMo_markOf 105 = .ok (.laload, 1) := by decide +kernel
theorem dMo_markOf_106 : decode cMo_markOf 106 = .ok (.invokestatic 226, 3) := by decide +kernel
theorem dMo_markOf_109 : decode cMo_markOf 109 = .ok (.ifCond .ne 7, 3) := by decide +kernel
theorem dMo_markOf_112 : decode cMo_markOf 112 = .ok (.iconst 4, 1) := by decide +kernel
theorem dMo_markOf_113 : decode cMo_markOf 113 = .ok (.goto 4, 3) := by decide +kernel
theorem dMo_markOf_116 : decode cMo_markOf 116 = .ok (.iconst 0, 1) := by decide +kernel
theorem dMo_markOf_117 : decode cMo_markOf 117 = .ok (.ireturn, 1) := by decide +kernel
def f_Mo_markOf_J117  (v1 : Int32) (v2 : Int32) (u0 : Int32) (σ : Mem) : Option (Int32 × Mem) :=
  some (u0, σ)
def f_Mo_markOf_J116  (v1 : Int32) (v2 : Int32) (σ : Mem) : Option (Int32 × Mem) :=
  f_Mo_markOf_J117 v1 v2 (0 : Int32) σ
def f_Mo_markOf_J83  (v1 : Int32) (v2 : Int32) (σ : Mem) : Option (Int32 × Mem) :=
  gd (inb v1 48) (
  if (lg_cmp (σ.2 25 v1.toNatClampNeg) (0 : Int64)) = 0 then (
  f_Mo_markOf_J116 v1 v2 σ)
  else (
  gd (inb v1 48) (
  gd (inb v1 48) (
  bn (f_Mo_consistent (σ.2 24 v1.toNatClampNeg) (σ.2 25 v1.toNatClampNeg) σ) fun (r6 : Int32) (σ5 : Mem) =>
  if r6 = 0 then (
  f_Mo_markOf_J117 v1 v2 (4 : Int32) σ5)
  else (
  f_Mo_markOf_J116 v1 v2 σ5)))))
def f_Mo_markOf_J43  (v1 : Int32) (v2 : Int32) (σ : Mem) : Option (Int32 × Mem) :=
  if v2 = (5 : Int32) then (
  gd (inb v1 48) (
  bn (f_Mo_isFrom (σ.2 25 v1.toNatClampNeg) σ) fun (r10 : Int32) (σ9 : Mem) =>
  if r10 = 0 then (
  f_Mo_markOf_J83 v1 v2 σ9)
  else (
  gd (inb v1 48) (
  gd (inb v1 48) (
  bn (f_Mo_firstOf (σ9.2 25 v1.toNatClampNeg) σ9) fun (r15 : Int64) (σ14 : Mem) =>
  bn (f_Mo_consistent (σ9.2 18 v1.toNatClampNeg) r15 σ14) fun (r18 : Int32) (σ17 : Mem) =>
  if r18 = 0 then (
  some ((3 : Int32), σ17))
  else (
  f_Mo_markOf_J83 v1 v2 σ17))))))
  else (
  f_Mo_markOf_J83 v1 v2 σ)
def f_Mo_markOf_J22  (v1 : Int32) (v2 : Int32) (σ : Mem) : Option (Int32 × Mem) :=
  if v2 = (4 : Int32) then (
  bn (f_Mo_has (v1 + (1 : Int32)) σ) fun (r21 : Int64) (σ20 : Mem) =>
  if (lg_cmp r21 (2 : Int64)) = 0 then (
  some ((2 : Int32), σ20))
  else (
  f_Mo_markOf_J43 v1 v2 σ20))
  else (
  f_Mo_markOf_J43 v1 v2 σ)
def f_Mo_markOf  (v1 : Int32) (σ : Mem) : Option (Int32 × Mem) :=
  gd (inb v1 48) (
  lt_ (σ.1 16 v1.toNatClampNeg) fun (x23 : Int32) =>
  if x23 = (2 : Int32) then (
  bn (f_Mo_binder v1 σ) fun (r26 : Int32) (σ25 : Mem) =>
  if 0 ≤ r26 then (
  f_Mo_markOf_J22 v1 x23 σ25)
  else (
  some ((1 : Int32), σ25)))
  else (
  f_Mo_markOf_J22 v1 x23 σ))
set_option maxHeartbeats 4000000 in
set_option maxRecDepth 100000 in
theorem c_Mo_markOf (l : Launch) (g : Gw) (hg : wInj g) {v1 : Int32} {r0 : Int32} {σ σ0 : Mem} (h : f_Mo_markOf v1 σ = some (r0, σ0)) : KI l yMo_markOf cMo_markOf 3 (some .int) 3 g [.ref (ad g 15), .int v1] σ r0 σ0 := by
  refine q_met g hg (own := "TermBenchModel") rfl rfl (Nat.le_of_ble_eq_true rfl) (fun p e s m args below meth c R Q cx hRk hr hQ H locs ls hP hS hl => ?_)
  have hx := cx.1
  have hb := cx.2.1
  have hown := cx.2.2.2.1
  have hts := cx.2.2.2.2.1
  have hl : lv_has ls 3 [(0, .ref (ad g 15)), (1, .int v1)] := hl
  have J117 : ∀ (v1 : Int32) (v2 : Int32) (u0 : Int32) (σ : Mem), f_Mo_markOf_J117 v1 v2 u0 σ = some (r0, σ0) → ∀ (H : Heap) (locs : List Loc) (ls : Array Slot), lv_has ls 3 [(0, .ref (ad g 15)), (1, .int v1), (2, .int v2)] → Wd g σ H → va_S (wA g) s.heap H locs → W p l e R s m args below meth c H locs 0 0 Q (F0 m 117 ls [.int u0]) := by
    intro v1 v2 u0 σ h H locs ls hl hP hS
    unfold f_Mo_markOf_J117 at h
    exact q_ri cx hr rfl hP hS hQ h dMo_markOf_117
  have J116 : ∀ (v1 : Int32) (v2 : Int32) (σ : Mem), f_Mo_markOf_J116 v1 v2 σ = some (r0, σ0) → ∀ (H : Heap) (locs : List Loc) (ls : Array Slot), lv_has ls 3 [(0, .ref (ad g 15)), (1, .int v1), (2, .int v2)] → Wd g σ H → va_S (wA g) s.heap H locs → W p l e R s m args below meth c H locs 0 0 Q (F0 m 116 ls []) := by
    intro v1 v2 σ h H locs ls hl hP hS
    unfold f_Mo_markOf_J116 at h
    refine lv_iconst (v := 0) hx hb dMo_markOf_116 (by decide) ?_
    exact J117 _ _ _ _ h _ _ _ (lv_sub hl [0, 1, 2] rfl) hP hS
  have J83 : ∀ (v1 : Int32) (v2 : Int32) (σ : Mem), f_Mo_markOf_J83 v1 v2 σ = some (r0, σ0) → ∀ (H : Heap) (locs : List Loc) (ls : Array Slot), lv_has ls 3 [(0, .ref (ad g 15)), (1, .int v1), (2, .int v2)] → Wd g σ H → va_S (wA g) s.heap H locs → W p l e R s m args below meth c H locs 0 0 Q (F0 m 83 ls []) := by
    intro v1 v2 σ h H locs ls hl hP hS
    unfold f_Mo_markOf_J83 at h
    refine lv_aload_n hx hb dMo_markOf_83 rfl (lv_at hl 0 rfl) ?_
    refine g_Mo_wanted cx hP  t_544 dMo_markOf_84 ?_
    refine lv_iload_n hx hb dMo_markOf_87 rfl (lv_at hl 1 rfl) ?_
    obtain ⟨b1, h⟩ := gd_some h
    refine q_lald cx hP (by decide) (e_25 g) b1 dMo_markOf_88 ?_
    refine lv_lconst (v := 0) hx hb dMo_markOf_89 rfl ?_
    refine W.lcmp hx hb dMo_markOf_90 ?_
    refine lv_if_eq (tgt := 116) hx hb dMo_markOf_91 (by decide) (fun hc => ?_) (fun hc => ?_)
    · replace h := if_t h hc
      exact J116 _ _ _ h _ _ _ (lv_sub hl [0, 1, 2] rfl) hP hS
    · replace h := if_f h hc
      refine lv_aload_n hx hb dMo_markOf_94 rfl (lv_at hl 0 rfl) ?_
      refine g_Mo_gots cx hP  t_543 dMo_markOf_95 ?_
      refine lv_iload_n hx hb dMo_markOf_98 rfl (lv_at hl 1 rfl) ?_
      obtain ⟨b2, h⟩ := gd_some h
      refine q_lald cx hP (by decide) (e_24 g) b2 dMo_markOf_99 ?_
      refine lv_aload_n hx hb dMo_markOf_100 rfl (lv_at hl 0 rfl) ?_
      refine g_Mo_wanted cx hP  t_544 dMo_markOf_101 ?_
      refine lv_iload_n hx hb dMo_markOf_104 rfl (lv_at hl 1 rfl) ?_
      obtain ⟨b3, h⟩ := gd_some h
      refine q_lald cx hP (by decide) (e_25 g) b3 dMo_markOf_105 ?_
      obtain ⟨r6, σ5, h4, h⟩ := bn_some h
      refine q_cSi (rest := []) (As := [.long (σ.2 24 v1.toNatClampNeg), .long (σ.2 25 v1.toNatClampNeg)]) cx hP hS hRk (c_Mo_consistent l g hg h4) Y_Mo_consistent S_Mo_consistent t_858 (by decide) rfl hl.1 rfl (Nat.le_of_ble_eq_true rfl) dMo_markOf_106 (fun H locs hP hS => ?_)
      refine lv_if_ne (tgt := 116) hx hb dMo_markOf_109 (by decide) (fun hc => ?_) (fun hc => ?_)
      · replace h := if_f h hc
        exact J116 _ _ _ h _ _ _ (lv_sub hl [0, 1, 2] rfl) hP hS
      · replace h := if_t h hc
        refine lv_iconst (v := 4) hx hb dMo_markOf_112 (by decide) ?_
        refine lv_goto (tgt := 117) hx hb dMo_markOf_113 (by decide) ?_
        exact J117 _ _ _ _ h _ _ _ (lv_sub hl [0, 1, 2] rfl) hP hS
  have J43 : ∀ (v1 : Int32) (v2 : Int32) (σ : Mem), f_Mo_markOf_J43 v1 v2 σ = some (r0, σ0) → ∀ (H : Heap) (locs : List Loc) (ls : Array Slot), lv_has ls 3 [(0, .ref (ad g 15)), (1, .int v1), (2, .int v2)] → Wd g σ H → va_S (wA g) s.heap H locs → W p l e R s m args below meth c H locs 0 0 Q (F0 m 43 ls []) := by
    intro v1 v2 σ h H locs ls hl hP hS
    unfold f_Mo_markOf_J43 at h
    refine lv_iload_n hx hb dMo_markOf_43 rfl (lv_at hl 2 rfl) ?_
    refine lv_iconst (v := 5) hx hb dMo_markOf_44 (by decide) ?_
    refine lv_icmp_ne (tgt := 83) hx hb dMo_markOf_45 (by decide) (fun hc => ?_) (fun hc => ?_)
    · replace h := if_f h hc
      exact J83 _ _ _ h _ _ _ (lv_sub hl [0, 1, 2] rfl) hP hS
    · replace h := if_t h hc
      refine lv_aload_n hx hb dMo_markOf_48 rfl (lv_at hl 0 rfl) ?_
      refine g_Mo_wanted cx hP  t_544 dMo_markOf_49 ?_
      refine lv_iload_n hx hb dMo_markOf_52 rfl (lv_at hl 1 rfl) ?_
      obtain ⟨b7, h⟩ := gd_some h
      refine q_lald cx hP (by decide) (e_25 g) b7 dMo_markOf_53 ?_
      obtain ⟨r10, σ9, h8, h⟩ := bn_some h
      refine q_cSi (rest := []) (As := [.long (σ.2 25 v1.toNatClampNeg)]) cx hP hS hRk (c_Mo_isFrom l g hg h8) Y_Mo_isFrom S_Mo_isFrom t_827 (by decide) rfl hl.1 rfl (Nat.le_of_ble_eq_true rfl) dMo_markOf_54 (fun H locs hP hS => ?_)
      refine lv_if_eq (tgt := 83) hx hb dMo_markOf_57 (by decide) (fun hc => ?_) (fun hc => ?_)
      · replace h := if_t h hc
        exact J83 _ _ _ h _ _ _ (lv_sub hl [0, 1, 2] rfl) hP hS
      · replace h := if_f h hc
        refine lv_aload_n hx hb dMo_markOf_60 rfl (lv_at hl 0 rfl) ?_
        refine g_Mo_types cx hP  t_534 dMo_markOf_61 ?_
        refine lv_iload_n hx hb dMo_markOf_64 rfl (lv_at hl 1 rfl) ?_
        obtain ⟨b11, h⟩ := gd_some h
        refine q_lald cx hP (by decide) (e_18 g) b11 dMo_markOf_65 ?_
        refine lv_aload_n hx hb dMo_markOf_66 rfl (lv_at hl 0 rfl) ?_
        refine g_Mo_wanted cx hP  t_544 dMo_markOf_67 ?_
        refine lv_iload_n hx hb dMo_markOf_70 rfl (lv_at hl 1 rfl) ?_
        obtain ⟨b12, h⟩ := gd_some h
        refine q_lald cx hP (by decide) (e_25 g) b12 dMo_markOf_71 ?_
        obtain ⟨r15, σ14, h13, h⟩ := bn_some h
        refine q_cSl (rest := [.long (σ9.2 18 v1.toNatClampNeg)]) (As := [.long (σ9.2 25 v1.toNatClampNeg)]) cx hP hS hRk (c_Mo_firstOf l g hg h13) Y_Mo_firstOf S_Mo_firstOf t_840 (by decide) rfl hl.1 rfl (Nat.le_of_ble_eq_true rfl) dMo_markOf_72 (fun H locs hP hS => ?_)
        obtain ⟨r18, σ17, h16, h⟩ := bn_some h
        refine q_cSi (rest := []) (As := [.long (σ9.2 18 v1.toNatClampNeg), .long r15]) cx hP hS hRk (c_Mo_consistent l g hg h16) Y_Mo_consistent S_Mo_consistent t_858 (by decide) rfl hl.1 rfl (Nat.le_of_ble_eq_true rfl) dMo_markOf_75 (fun H locs hP hS => ?_)
        refine lv_if_ne (tgt := 83) hx hb dMo_markOf_78 (by decide) (fun hc => ?_) (fun hc => ?_)
        · replace h := if_f h hc
          exact J83 _ _ _ h _ _ _ (lv_sub hl [0, 1, 2] rfl) hP hS
        · replace h := if_t h hc
          refine lv_iconst (v := 3) hx hb dMo_markOf_81 (by decide) ?_
          exact q_ri cx hr rfl hP hS hQ h dMo_markOf_82
  have J22 : ∀ (v1 : Int32) (v2 : Int32) (σ : Mem), f_Mo_markOf_J22 v1 v2 σ = some (r0, σ0) → ∀ (H : Heap) (locs : List Loc) (ls : Array Slot), lv_has ls 3 [(0, .ref (ad g 15)), (1, .int v1), (2, .int v2)] → Wd g σ H → va_S (wA g) s.heap H locs → W p l e R s m args below meth c H locs 0 0 Q (F0 m 22 ls []) := by
    intro v1 v2 σ h H locs ls hl hP hS
    unfold f_Mo_markOf_J22 at h
    refine lv_iload_n hx hb dMo_markOf_22 rfl (lv_at hl 2 rfl) ?_
    refine lv_iconst (v := 4) hx hb dMo_markOf_23 (by decide) ?_
    refine lv_icmp_ne (tgt := 43) hx hb dMo_markOf_24 (by decide) (fun hc => ?_) (fun hc => ?_)
    · replace h := if_f h hc
      exact J43 _ _ _ h _ _ _ (lv_sub hl [0, 1, 2] rfl) hP hS
    · replace h := if_t h hc
      refine lv_aload_n hx hb dMo_markOf_27 rfl (lv_at hl 0 rfl) ?_
      refine lv_iload_n hx hb dMo_markOf_28 rfl (lv_at hl 1 rfl) ?_
      refine lv_iconst (v := 1) hx hb dMo_markOf_29 (by decide) ?_
      refine lv_iadd hx hb dMo_markOf_30 ?_
      obtain ⟨r21, σ20, h19, h⟩ := bn_some h
      refine q_cVl (rest := []) (As := [.int (v1 + (1 : Int32))]) cx hP hS hRk (c_Mo_has l g hg h19) Y_Mo_has V_Mo_has t_836 (by decide) (by decide) (e_15 g _ _) rfl rfl hl.1 rfl (Nat.le_of_ble_eq_true rfl) dMo_markOf_31 (fun H locs hP hS => ?_)
      refine lv_ldc2 (own := "TermBenchModel") (index := 203) (v := 2) hx hb hown (hts _ t_826) dMo_markOf_34 ?_
      refine W.lcmp hx hb dMo_markOf_37 ?_
      refine lv_if_ne (tgt := 43) hx hb dMo_markOf_38 (by decide) (fun hc => ?_) (fun hc => ?_)
      · replace h := if_f h hc
        exact J43 _ _ _ h _ _ _ (lv_sub hl [0, 1, 2] rfl) hP hS
      · replace h := if_t h hc
        refine lv_iconst (v := 2) hx hb dMo_markOf_41 (by decide) ?_
        exact q_ri cx hr rfl hP hS hQ h dMo_markOf_42
  unfold f_Mo_markOf at h
  refine lv_aload_n hx hb dMo_markOf_0 rfl (lv_at hl 0 rfl) ?_
  refine g_Mo_kinds cx hP  t_532 dMo_markOf_1 ?_
  refine lv_iload_n hx hb dMo_markOf_4 rfl (lv_at hl 1 rfl) ?_
  obtain ⟨b22, h⟩ := gd_some h
  refine q_iald cx hP (by decide) (e_16 g) b22 dMo_markOf_5 ?_
  obtain ⟨x23, ex23, h⟩ := lt_some h
  refine q_nmi ex23 ?_
  refine lv_istore_n (lv' := [(2, .int x23), (0, .ref (ad g 15)), (1, .int v1)]) hx hb dMo_markOf_6 rfl hl (Nat.le_of_ble_eq_true rfl) rfl (fun ls hl => ?_)
  refine lv_iload_n hx hb dMo_markOf_7 rfl (lv_at hl 0 rfl) ?_
  refine lv_iconst (v := 2) hx hb dMo_markOf_8 (by decide) ?_
  refine lv_icmp_ne (tgt := 22) hx hb dMo_markOf_9 (by decide) (fun hc => ?_) (fun hc => ?_)
  · replace h := if_f h hc
    exact J22 _ _ _ h _ _ _ (lv_sub hl [1, 2, 0] rfl) hP hS
  · replace h := if_t h hc
    refine lv_aload_n hx hb dMo_markOf_12 rfl (lv_at hl 1 rfl) ?_
    refine lv_iload_n hx hb dMo_markOf_13 rfl (lv_at hl 2 rfl) ?_
    obtain ⟨r26, σ25, h24, h⟩ := bn_some h
    refine q_cVi (rest := []) (As := [.int v1]) cx hP hS hRk (c_Mo_binder l g hg h24) Y_Mo_binder V_Mo_binder t_847 (by decide) (by decide) (e_15 g _ _) rfl rfl hl.1 rfl (Nat.le_of_ble_eq_true rfl) dMo_markOf_14 (fun H locs hP hS => ?_)
    refine lv_if_ge (tgt := 22) hx hb dMo_markOf_17 (by decide) (fun hc => ?_) (fun hc => ?_)
    · replace h := if_t h hc
      exact J22 _ _ _ h _ _ _ (lv_sub hl [1, 2, 0] rfl) hP hS
    · replace h := if_f h hc
      refine lv_iconst (v := 1) hx hb dMo_markOf_20 (by decide) ?_
      exact q_ri cx hr rfl hP hS hQ h dMo_markOf_21
theorem dMo_wantedOf_0 : decode cMo_wantedOf 0 = .ok (.aload_n 0, 1) := by decide +kernel
theorem dMo_wantedOf_1 : decode cMo_wantedOf 1 = .ok (.getfield 13, 3) := by decide +kernel
theorem dMo_wantedOf_4 : decode cMo_wantedOf 4 = .ok (.iload_n 1, 1) := by decide +kernel
theorem dMo_wantedOf_5 : decode cMo_wantedOf 5 = .ok (.iaload, 1) := by decide +kernel
theorem dMo_wantedOf_6 : decode cMo_wantedOf 6 = .ok (.istore_n 3, 1) := by decide +kernel
theorem dMo_wantedOf_7 : decode cMo_wantedOf 7 = .ok (.iload_n 3, 1) := by decide +kernel
theorem dMo_wantedOf_8 : decode cMo_wantedOf 8 = .ok (.iconst 3, 1) := by decide +kernel
theorem dMo_wantedOf_9 : decode cMo_wantedOf 9 = .ok (.if_icmp .ne 7, 3) := by decide +kernel
theorem dMo_wantedOf_12 : decode cMo_wantedOf 12 = .ok (.ldc2_w 203, 3) := by decide +kernel
theorem dMo_wantedOf_15 : decode cMo_wantedOf 15 = .ok (.lreturn, 1) := by decide +kernel
theorem dMo_wantedOf_16 : decode cMo_wantedOf 16 = .ok (.iload_n 3, 1) := by decide +kernel
theorem dMo_wantedOf_17 : decode cMo_wantedOf 17 = .ok (.bipush 6, 2) := by decide +kernel
theorem dMo_wantedOf_19 : decode cMo_wantedOf 19 = .ok (.if_icmp .ne 10, 3) := by decide +kernel
theorem dMo_wantedOf_22 : decode cMo_wantedOf 22 = .ok (.aload_n 0, 1) := by decide +kernel
theorem dMo_wantedOf_23 : decode cMo_wantedOf 23 = .ok (.getfield 20, 3) := by decide +kernel
theorem dMo_wantedOf_26 : decode cMo_wantedOf 26 = .ok (.iload_n 1, 1) := by decide +kernel
theorem dMo_wantedOf_27 : decode cMo_wantedOf 27 = .ok (.laload, 1) := by decide +kernel
theorem dMo_wantedOf_28 : decode cMo_wantedOf 28 = .ok (.lreturn, 1) := by decide +kernel
theorem dMo_wantedOf_29 : decode cMo_wantedOf 29 = .ok (.iload_n 3, 1) := by decide +kernel
theorem dMo_wantedOf_30 : decode cMo_wantedOf 30 = .ok (.iconst 5, 1) := by decide +kernel
theorem dMo_wantedOf_31 : decode cMo_wantedOf 31 = .ok (.if_icmp .ne 44, 3) := by decide +kernel
theorem dMo_wantedOf_34 : decode cMo_wantedOf 34 = .ok (.aload_n 0, 1) := by decide +kernel
theorem dMo_wantedOf_35 : decode cMo_wantedOf 35 = .ok (.getfield 42, 3) := by decide +kernel
theorem dMo_wantedOf_38 : decode cMo_wantedOf 38 = .ok (.iload_n 1, 1) := by decide +kernel
theorem dMo_wantedOf_39 : decode cMo_wantedOf 39 = .ok (.laload, 1) := by decide +kernel
theorem dMo_wantedOf_40 : decode cMo_wantedOf 40 = .ok (.invokestatic 212, 3) := by decide +kernel
theorem dMo_wantedOf_43 : decode cMo_wantedOf 43 = .ok (.ifCond .eq 15, 3) := by decide +kernel
theorem dMo_wantedOf_46 : decode cMo_wantedOf 46 = .ok (.aload_n 0, 1) := by decide +kernel
theorem dMo_wantedOf_47 : decode cMo_wantedOf 47 = .ok (.getfield 42, 3) := by decide +kernel
theorem dMo_wantedOf_50 : decode cMo_wantedOf 50 = .ok (.iload_n 1, 1) := by decide +kernel
theorem dMo_wantedOf_51 : decode cMo_wantedOf 51 = .ok (.laload, 1) := by decide +kernel
theorem dMo_wantedOf_52 : decode cMo_wantedOf 52 = .ok (.invokestatic 215, 3) := by decide +kernel
theorem dMo_wantedOf_55 : decode cMo_wantedOf 55 = .ok (.goto 19, 3) := by decide +kernel
theorem dMo_wantedOf_58 : decode cMo_wantedOf 58 = .ok (.aload_n 0, 1) := by decide +kernel
theorem dMo_wantedOf_59 : decode cMo_wantedOf 59 = .ok (.getfield 42, 3) := by decide +kernel
theorem dMo_wantedOf_62 : decode cMo_wantedOf 62 = .ok (.iload_n 1, 1) := by decide +kernel
theorem dMo_wantedOf_63 : decode cMo_wantedOf 63 = .ok (.laload, 1) := by decide +kernel
theorem dMo_wantedOf_64 : decode cMo_wantedOf 64 = .ok (.lconst 1, 1) := by decide +kernel
theorem dMo_wantedOf_65 : decode cMo_wantedOf 65 = .ok (.lcmp, 1) := by decide +kernel
theorem dMo_wantedOf_66 : decode cMo_wantedOf 66 = .ok (.ifCond .ne 7, 3) := by decide +kernel
theorem dMo_wantedOf_69 : decode cMo_wantedOf 69 = .ok (.lconst 1, 1) := by decide +kernel
theorem dMo_wantedOf_70 : decode cMo_wantedOf 70 = .ok (.goto 4, 3) := by decide +kernel
theorem dMo_wantedOf_73 : decode cMo_wantedOf 73 = .ok (.lconst 0, 1) := by decide +kernel
theorem dMo_wantedOf_74 : decode cMo_wantedOf 74 = .ok (.lreturn, 1) := by decide +kernel
theorem dMo_wantedOf_75 : decode cMo_wantedOf 75 = .ok (.iload_n 2, 1) := by decide +kernel
theorem dMo_wantedOf_76 : decode cMo_wantedOf 76 = .ok (.ifCond .ne 5, 3) := by decide +kernel
theorem dMo_wantedOf_79 : decode cMo_wantedOf 79 = .ok (.lconst 0, 1) := by decide +kernel
theorem dMo_wantedOf_80 : decode cMo_wantedOf 80 = .ok (.lreturn, 1) := by decide +kernel
theorem dMo_wantedOf_81 : decode cMo_wantedOf 81 = .ok (.aload_n 0, 1) := by decide +kernel
theorem dMo_wantedOf_82 : decode cMo_wantedOf 82 = .ok (.iload_n 1, 1) := by decide +kernel
theorem dMo_wantedOf_83 : decode cMo_wantedOf 83 = .ok (.iconst 1, 1) := by decide +kernel
theorem dMo_wantedOf_84 : decode cMo_wantedOf 84 = .ok (.iadd, 1) := by decide +kernel
theorem dMo_wantedOf_85 : decode cMo_wantedOf 85 = .ok (.invokevirtual 208, 3) := by decide +kernel
theorem dMo_wantedOf_88 : decode cMo_wantedOf 88 = .ok (.lstore 4, 2) := by decide +kernel
theorem dMo_wantedOf_90 : decode cMo_wantedOf 90 = .ok (.lload 4, 2) := by decide +kernel
theorem dMo_wantedOf_92 : decode cMo_wantedOf 92 = .ok (.invokestatic 212, 3) := by decide +kernel
theorem dMo_wantedOf_95 : decode cMo_wantedOf 95 = .ok (.ifCond .eq 11, 3) := by decide +kernel
theorem dMo_wantedOf_98 : decode cMo_wantedOf 98 = .ok (.lload 4, 2) := by decide +kernel
theorem dMo_wantedOf_100 : decode cMo_wantedOf 100 = .ok (.invokestatic 223, 3) := by decide +kernel
theorem dMo_wantedOf_103 : decode cMo_wantedOf 103 = .ok (.goto 4, 3) := by decide +kernel
theorem dMo_wantedOf_106 : decode cMo_wantedOf 106 = .ok (.lconst 1, 1) := by decide +kernel
theorem dMo_wantedOf_107 : decode cMo_wantedOf 107 = .ok (.lreturn, 1) := by decide +kernel
def f_Mo_wantedOf_J107  (v1 : Int32) (v2 : Int32) (v3 : Int32) (v4 : Int64) (u0 : Int64) (σ : Mem) : Option (Int64 × Mem) :=
  some (u0, σ)
def f_Mo_wantedOf_J74  (v1 : Int32) (v2 : Int32) (v3 : Int32) (u0 : Int64) (σ : Mem) : Option (Int64 × Mem) :=
  some (u0, σ)
def f_Mo_wantedOf  (v1 : Int32) (v2 : Int32) (σ : Mem) : Option (Int64 × Mem) :=
  gd (inb v1 48) (
  lt_ (σ.1 16 v1.toNatClampNeg) fun (x2 : Int32) =>
  if x2 = (3 : Int32) then (
  some ((2 : Int64), σ))
  else (
  if x2 = (6 : Int32) then (
  gd (inb v1 48) (
  some (σ.2 18 v1.toNatClampNeg, σ)))
  else (
  if x2 = (5 : Int32) then (
  gd (inb v1 48) (
  bn (f_Mo_isFrom (σ.2 25 v1.toNatClampNeg) σ) fun (r15 : Int32) (σ14 : Mem) =>
  if r15 = 0 then (
  gd (inb v1 48) (
  if (lg_cmp (σ14.2 25 v1.toNatClampNeg) (1 : Int64)) = 0 then (
  f_Mo_wantedOf_J74 v1 v2 x2 (1 : Int64) σ14)
  else (
  f_Mo_wantedOf_J74 v1 v2 x2 (0 : Int64) σ14)))
  else (
  gd (inb v1 48) (
  bn (f_Mo_secondOf (σ14.2 25 v1.toNatClampNeg) σ14) fun (r20 : Int64) (σ19 : Mem) =>
  f_Mo_wantedOf_J74 v1 v2 x2 r20 σ19))))
  else (
  if v2 = 0 then (
  some ((0 : Int64), σ))
  else (
  bn (f_Mo_has (v1 + (1 : Int32)) σ) fun (r5 : Int64) (σ4 : Mem) =>
  bn (f_Mo_isFrom r5 σ4) fun (r8 : Int32) (σ7 : Mem) =>
  if r8 = 0 then (
  f_Mo_wantedOf_J107 v1 v2 x2 r5 (1 : Int64) σ7)
  else (
  bn (f_Mo_firstOf r5 σ7) fun (r11 : Int64) (σ10 : Mem) =>
  f_Mo_wantedOf_J107 v1 v2 x2 r5 r11 σ10))))))
set_option maxHeartbeats 4000000 in
set_option maxRecDepth 100000 in
theorem c_Mo_wantedOf (l : Launch) (g : Gw) (hg : wInj g) {v1 : Int32} {v2 : Int32} {r0 : Int64} {σ σ0 : Mem} (h : f_Mo_wantedOf v1 v2 σ = some (r0, σ0)) : KL l yMo_wantedOf cMo_wantedOf 6 (some .long) 3 g [.ref (ad g 15), .int v1, .int v2] σ r0 σ0 := by
  refine q_met g hg (own := "TermBenchModel") rfl rfl (Nat.le_of_ble_eq_true rfl) (fun p e s m args below meth c R Q cx hRk hr hQ H locs ls hP hS hl => ?_)
  have hx := cx.1
  have hb := cx.2.1
  have hown := cx.2.2.2.1
  have hts := cx.2.2.2.2.1
  have hl : lv_has ls 6 [(0, .ref (ad g 15)), (1, .int v1), (2, .int v2)] := hl
  have J107 : ∀ (v1 : Int32) (v2 : Int32) (v3 : Int32) (v4 : Int64) (u0 : Int64) (σ : Mem), f_Mo_wantedOf_J107 v1 v2 v3 v4 u0 σ = some (r0, σ0) → ∀ (H : Heap) (locs : List Loc) (ls : Array Slot), lv_has ls 6 [(0, .ref (ad g 15)), (1, .int v1), (2, .int v2), (3, .int v3), (4, .long v4)] → Wd g σ H → va_S (wA g) s.heap H locs → W p l e R s m args below meth c H locs 0 0 Q (F0 m 107 ls [.long u0]) := by
    intro v1 v2 v3 v4 u0 σ h H locs ls hl hP hS
    unfold f_Mo_wantedOf_J107 at h
    exact q_rl cx hr hP hS hQ h dMo_wantedOf_107
  have J74 : ∀ (v1 : Int32) (v2 : Int32) (v3 : Int32) (u0 : Int64) (σ : Mem), f_Mo_wantedOf_J74 v1 v2 v3 u0 σ = some (r0, σ0) → ∀ (H : Heap) (locs : List Loc) (ls : Array Slot), lv_has ls 6 [(0, .ref (ad g 15)), (1, .int v1), (2, .int v2), (3, .int v3)] → Wd g σ H → va_S (wA g) s.heap H locs → W p l e R s m args below meth c H locs 0 0 Q (F0 m 74 ls [.long u0]) := by
    intro v1 v2 v3 u0 σ h H locs ls hl hP hS
    unfold f_Mo_wantedOf_J74 at h
    exact q_rl cx hr hP hS hQ h dMo_wantedOf_74
  unfold f_Mo_wantedOf at h
  refine lv_aload_n hx hb dMo_wantedOf_0 rfl (lv_at hl 0 rfl) ?_
  refine g_Mo_kinds cx hP  t_532 dMo_wantedOf_1 ?_
  refine lv_iload_n hx hb dMo_wantedOf_4 rfl (lv_at hl 1 rfl) ?_
  obtain ⟨b1, h⟩ := gd_some h
  refine q_iald cx hP (by decide) (e_16 g) b1 dMo_wantedOf_5 ?_
  obtain ⟨x2, ex2, h⟩ := lt_some h
  refine q_nmi ex2 ?_
  refine lv_istore_n (lv' := [(3, .int x2), (0, .ref (ad g 15)), (1, .int v1), (2, .int v2)]) hx hb dMo_wantedOf_6 rfl hl (Nat.le_of_ble_eq_true rfl) rfl (fun ls hl => ?_)
  refine lv_iload_n hx hb dMo_wantedOf_7 rfl (lv_at hl 0 rfl) ?_
  refine lv_iconst (v := 3) hx hb dMo_wantedOf_8 (by decide) ?_
  refine lv_icmp_ne (tgt := 16) hx hb dMo_wantedOf_9 (by decide) (fun hc => ?_) (fun hc => ?_)
  · replace h := if_f h hc
    refine lv_iload_n hx hb dMo_wantedOf_16 rfl (lv_at hl 0 rfl) ?_
    refine lv_bipush (v := 6) hx hb dMo_wantedOf_17 (by decide) ?_
    refine lv_icmp_ne (tgt := 29) hx hb dMo_wantedOf_19 (by decide) (fun hc => ?_) (fun hc => ?_)
    · replace h := if_f h hc
      refine lv_iload_n hx hb dMo_wantedOf_29 rfl (lv_at hl 0 rfl) ?_
      refine lv_iconst (v := 5) hx hb dMo_wantedOf_30 (by decide) ?_
      refine lv_icmp_ne (tgt := 75) hx hb dMo_wantedOf_31 (by decide) (fun hc => ?_) (fun hc => ?_)
      · replace h := if_f h hc
        refine lv_iload_n hx hb dMo_wantedOf_75 rfl (lv_at hl 3 rfl) ?_
        refine lv_if_ne (tgt := 81) hx hb dMo_wantedOf_76 (by decide) (fun hc => ?_) (fun hc => ?_)
        · replace h := if_f h hc
          refine lv_aload_n hx hb dMo_wantedOf_81 rfl (lv_at hl 1 rfl) ?_
          refine lv_iload_n hx hb dMo_wantedOf_82 rfl (lv_at hl 2 rfl) ?_
          refine lv_iconst (v := 1) hx hb dMo_wantedOf_83 (by decide) ?_
          refine lv_iadd hx hb dMo_wantedOf_84 ?_
          obtain ⟨r5, σ4, h3, h⟩ := bn_some h
          refine q_cVl (rest := []) (As := [.int (v1 + (1 : Int32))]) cx hP hS hRk (c_Mo_has l g hg h3) Y_Mo_has V_Mo_has t_836 (by decide) (by decide) (e_15 g _ _) rfl rfl hl.1 rfl (Nat.le_of_ble_eq_true rfl) dMo_wantedOf_85 (fun H locs hP hS => ?_)
          refine lv_lstore (lv' := [(4, .long r5), (3, .int x2), (0, .ref (ad g 15)), (1, .int v1), (2, .int v2)]) hx hb dMo_wantedOf_88 hl (Nat.le_of_ble_eq_true rfl) rfl (fun ls hl => ?_)
          refine lv_lload hx hb dMo_wantedOf_90 (lv_at hl 0 rfl) ?_
          obtain ⟨r8, σ7, h6, h⟩ := bn_some h
          refine q_cSi (rest := []) (As := [.long r5]) cx hP hS hRk (c_Mo_isFrom l g hg h6) Y_Mo_isFrom S_Mo_isFrom t_827 (by decide) rfl hl.1 rfl (Nat.le_of_ble_eq_true rfl) dMo_wantedOf_92 (fun H locs hP hS => ?_)
          refine lv_if_eq (tgt := 106) hx hb dMo_wantedOf_95 (by decide) (fun hc => ?_) (fun hc => ?_)
          · replace h := if_t h hc
            refine lv_lconst (v := 1) hx hb dMo_wantedOf_106 rfl ?_
            exact J107 _ _ _ _ _ _ h _ _ _ (lv_sub hl [2, 3, 4, 1, 0] rfl) hP hS
          · replace h := if_f h hc
            refine lv_lload hx hb dMo_wantedOf_98 (lv_at hl 0 rfl) ?_
            obtain ⟨r11, σ10, h9, h⟩ := bn_some h
            refine q_cSl (rest := []) (As := [.long r5]) cx hP hS hRk (c_Mo_firstOf l g hg h9) Y_Mo_firstOf S_Mo_firstOf t_840 (by decide) rfl hl.1 rfl (Nat.le_of_ble_eq_true rfl) dMo_wantedOf_100 (fun H locs hP hS => ?_)
            refine lv_goto (tgt := 107) hx hb dMo_wantedOf_103 (by decide) ?_
            exact J107 _ _ _ _ _ _ h _ _ _ (lv_sub hl [2, 3, 4, 1, 0] rfl) hP hS
        · replace h := if_t h hc
          refine lv_lconst (v := 0) hx hb dMo_wantedOf_79 rfl ?_
          exact q_rl cx hr hP hS hQ h dMo_wantedOf_80
      · replace h := if_t h hc
        refine lv_aload_n hx hb dMo_wantedOf_34 rfl (lv_at hl 1 rfl) ?_
        refine g_Mo_wanted cx hP  t_544 dMo_wantedOf_35 ?_
        refine lv_iload_n hx hb dMo_wantedOf_38 rfl (lv_at hl 2 rfl) ?_
        obtain ⟨b12, h⟩ := gd_some h
        refine q_lald cx hP (by decide) (e_25 g) b12 dMo_wantedOf_39 ?_
        obtain ⟨r15, σ14, h13, h⟩ := bn_some h
        refine q_cSi (rest := []) (As := [.long (σ.2 25 v1.toNatClampNeg)]) cx hP hS hRk (c_Mo_isFrom l g hg h13) Y_Mo_isFrom S_Mo_isFrom t_827 (by decide) rfl hl.1 rfl (Nat.le_of_ble_eq_true rfl) dMo_wantedOf_40 (fun H locs hP hS => ?_)
        refine lv_if_eq (tgt := 58) hx hb dMo_wantedOf_43 (by decide) (fun hc => ?_) (fun hc => ?_)
        · replace h := if_t h hc
          refine lv_aload_n hx hb dMo_wantedOf_58 rfl (lv_at hl 1 rfl) ?_
          refine g_Mo_wanted cx hP  t_544 dMo_wantedOf_59 ?_
          refine lv_iload_n hx hb dMo_wantedOf_62 rfl (lv_at hl 2 rfl) ?_
          obtain ⟨b16, h⟩ := gd_some h
          refine q_lald cx hP (by decide) (e_25 g) b16 dMo_wantedOf_63 ?_
          refine lv_lconst (v := 1) hx hb dMo_wantedOf_64 rfl ?_
          refine W.lcmp hx hb dMo_wantedOf_65 ?_
          refine lv_if_ne (tgt := 73) hx hb dMo_wantedOf_66 (by decide) (fun hc => ?_) (fun hc => ?_)
          · replace h := if_f h hc
            refine lv_lconst (v := 0) hx hb dMo_wantedOf_73 rfl ?_
            exact J74 _ _ _ _ _ h _ _ _ (lv_sub hl [1, 2, 3, 0] rfl) hP hS
          · replace h := if_t h hc
            refine lv_lconst (v := 1) hx hb dMo_wantedOf_69 rfl ?_
            refine lv_goto (tgt := 74) hx hb dMo_wantedOf_70 (by decide) ?_
            exact J74 _ _ _ _ _ h _ _ _ (lv_sub hl [1, 2, 3, 0] rfl) hP hS
        · replace h := if_f h hc
          refine lv_aload_n hx hb dMo_wantedOf_46 rfl (lv_at hl 1 rfl) ?_
          refine g_Mo_wanted cx hP  t_544 dMo_wantedOf_47 ?_
          refine lv_iload_n hx hb dMo_wantedOf_50 rfl (lv_at hl 2 rfl) ?_
          obtain ⟨b17, h⟩ := gd_some h
          refine q_lald cx hP (by decide) (e_25 g) b17 dMo_wantedOf_51 ?_
          obtain ⟨r20, σ19, h18, h⟩ := bn_some h
          refine q_cSl (rest := []) (As := [.long (σ14.2 25 v1.toNatClampNeg)]) cx hP hS hRk (c_Mo_secondOf l g hg h18) Y_Mo_secondOf S_Mo_secondOf t_830 (by decide) rfl hl.1 rfl (Nat.le_of_ble_eq_true rfl) dMo_wantedOf_52 (fun H locs hP hS => ?_)
          refine lv_goto (tgt := 74) hx hb dMo_wantedOf_55 (by decide) ?_
          exact J74 _ _ _ _ _ h _ _ _ (lv_sub hl [1, 2, 3, 0] rfl) hP hS
    · replace h := if_t h hc
      refine lv_aload_n hx hb dMo_wantedOf_22 rfl (lv_at hl 1 rfl) ?_
      refine g_Mo_types cx hP  t_534 dMo_wantedOf_23 ?_
      refine lv_iload_n hx hb dMo_wantedOf_26 rfl (lv_at hl 2 rfl) ?_
      obtain ⟨b21, h⟩ := gd_some h
      refine q_lald cx hP (by decide) (e_18 g) b21 dMo_wantedOf_27 ?_
      exact q_rl cx hr hP hS hQ h dMo_wantedOf_28
  · replace h := if_t h hc
    refine lv_ldc2 (own := "TermBenchModel") (index := 203) (v := 2) hx hb hown (hts _ t_826) dMo_wantedOf_12 ?_
    exact q_rl cx hr hP hS hQ h dMo_wantedOf_15
theorem dMo_type_0 : decode cMo_type 0 = .ok (.aload_n 0, 1) := by decide +kernel
theorem dMo_type_1 : decode cMo_type 1 = .ok (.getfield 126, 3) := by decide +kernel
theorem dMo_type_4 : decode cMo_type 4 = .ok (.ifCond .eq 4, 3) := by decide +kernel
theorem dMo_type_7 : decode cMo_type 7 = .ok (.return_, 1) := by decide +kernel
theorem dMo_type_8 : decode cMo_type 8 = .ok (.aload_n 0, 1) := by decide +kernel
theorem dMo_type_9 : decode cMo_type 9 = .ok (.iconst 1, 1) := by decide +kernel
theorem dMo_type_10 : decode cMo_type 10 = .ok (.putfield 126, 3) := by decide +kernel
theorem dMo_type_13 : decode cMo_type 13 = .ok (.iconst 0, 1) := by decide +kernel
theorem dMo_type_14 : decode cMo_type 14 = .ok (.istore_n 1, 1) := by decide +kernel
theorem dMo_type_15 : decode cMo_type 15 = .ok (.iload_n 1, 1) := by decide +kernel
theorem dMo_type_16 : decode cMo_type 16 = .ok (.aload_n 0, 1) := by decide +kernel
theorem dMo_type_17 : decode cMo_type 17 = .ok (.getfield 7, 3) := by decide +kernel
theorem dMo_type_20 : decode cMo_type 20 = .ok (.if_icmp .ge 30, 3) := by decide +kernel
theorem dMo_type_23 : decode cMo_type 23 = .ok (.aload_n 0, 1) := by decide +kernel
theorem dMo_type_24 : decode cMo_type 24 = .ok (.getfield 39, 3) := by decide +kernel
theorem dMo_type_27 : decode cMo_type 27 = .ok (.iload_n 1, 1) := by decide +kernel
theorem dMo_type_28 : decode cMo_type 28 = .ok (.lconst 1, 1) := by decide +kernel
theorem dMo_type_29 : decode cMo_type 29 = .ok (.lastore, 1) := by decide +kernel
theorem dMo_type_30 : decode cMo_type 30 = .ok (.aload_n 0, 1) := by decide +kernel
theorem dMo_type_31 : decode cMo_type 31 = .ok (.getfield 42, 3) := by decide +kernel
theorem dMo_type_34 : decode cMo_type 34 = .ok (.iload_n 1, 1) := by decide +kernel
theorem dMo_type_35 : decode cMo_type 35 = .ok (.lconst 0, 1) := by decide +kernel
theorem dMo_type_36 : decode cMo_type 36 = .ok (.lastore, 1) := by decide +kernel
theorem dMo_type_37 : decode cMo_type 37 = .ok (.aload_n 0, 1) := by decide +kernel
theorem dMo_type_38 : decode cMo_type 38 = .ok (.getfield 45, 3) := by decide +kernel
theorem dMo_type_41 : decode cMo_type 41 = .ok (.iload_n 1, 1) := by decide +kernel
theorem dMo_type_42 : decode cMo_type 42 = .ok (.iconst 0, 1) := by decide +kernel
theorem dMo_type_43 : decode cMo_type 43 = .ok (.iastore, 1) := by decide +kernel
theorem dMo_type_44 : decode cMo_type 44 = .ok (.iinc 1 1, 3) := by decide +kernel
theorem dMo_type_47 : decode cMo_type 47 = .ok (.goto (-32), 3) := by decide +kernel
theorem dMo_type_50 : decode cMo_type 50 = .ok (.iconst 1, 1) := by decide +kernel
theorem dMo_type_51 : decode cMo_type 51 = .ok (.istore_n 1, 1) := by decide +kernel
theorem dMo_type_52 : decode cMo_type 52 = .ok (.iload_n 1, 1) := by decide +kernel
theorem dMo_type_53 : decode cMo_type 53 = .ok (.ifCond .eq 154, 3) := by decide +kernel
theorem dMo_type_56 : decode cMo_type 56 = .ok (.iconst 0, 1) := by decide +kernel
theorem dMo_type_57 : decode cMo_type 57 = .ok (.istore_n 1, 1) := by decide +kernel
theorem dMo_type_58 : decode cMo_type 58 = .ok (.aload_n 0, 1) := by decide +kernel
theorem dMo_type_59 : decode cMo_type 59 = .ok (.getfield 7, 3) := by decide +kernel
theorem dMo_type_62 : decode cMo_type 62 = .ok (.iconst 1, 1) := by decide +kernel
theorem dMo_type_63 : decode cMo_type 63 = .ok (.isub, 1) := by decide +kernel
theorem dMo_type_64 : decode cMo_type 64 = .ok (.istore_n 2, 1) := by decide +kernel
theorem dMo_type_65 : decode cMo_type 65 = .ok (.iload_n 2, 1) := by decide +kernel
theorem dMo_type_66 : decode cMo_type 66 = .ok (.ifCond .lt 138, 3) := by decide +kernel
theorem dMo_type_69 : decode cMo_type 69 = .ok (.aload_n 0, 1) := by decide +kernel
theorem dMo_type_70 : decode cMo_type 70 = .ok (.iload_n 2, 1) := by decide +kernel
theorem dMo_type_71 : decode cMo_type 71 = .ok (.invokevirtual 174, 3) := by decide +kernel
theorem dMo_type_74 : decode cMo_type 74 = .ok (.istore_n 3, 1) := by decide +kernel
theorem dMo_type_75 : decode cMo_type 75 = .ok (.iload_n 3, 1) := by decide +kernel
theorem dMo_type_76 : decode cMo_type 76 = .ok (.ifCond .ge 7, 3) := by decide +kernel
theorem dMo_type_79 : decode cMo_type 79 = .ok (.lconst 0, 1) := by decide +kernel
theorem dMo_type_80 : decode cMo_type 80 = .ok (.goto 23, 3) := by decide +kernel
theorem dMo_type_83 : decode cMo_type 83 = .ok (.aload_n 0, 1) := by decide +kernel
theorem dMo_type_84 : decode cMo_type 84 = .ok (.iload_n 3, 1) := by decide +kernel
theorem dMo_type_85 : decode cMo_type 85 = .ok (.aload_n 0, 1) := by decide +kernel
theorem dMo_type_86 : decode cMo_type 86 = .ok (.iload_n 3, 1) := by decide +kernel
theorem dMo_type_87 : decode cMo_type 87 = .ok (.iconst 0, 1) := by decide +kernel
theorem dMo_type_88 : decode cMo_type 88 = .ok (.invokevirtual 177, 3) := by decide +kernel
theorem dMo_type_91 : decode cMo_type 91 = .ok (.iload_n 2, 1) := by decide +kernel
theorem dMo_type_92 : decode cMo_type 92 = .ok (.if_icmp .ne 7, 3) := by decide +kernel
theorem dMo_type_95 : decode cMo_type 95 = .ok (.iconst 0, 1) := by decide +kernel
theorem dMo_type_96 : decode cMo_type 96 = .ok (.goto 4, 3) := by decide +kernel
theorem dMo_type_99 : decode cMo_type 99 = .ok (.iconst 1, 1) := by decide +kernel
theorem dMo_type_100 : decode cMo_type 100 = .ok (.invokevirtual 230, 3) := by decide +kernel
theorem dMo_type_103 : decode cMo_type 103 = .ok (.lstore 4, 2) := by decide +kernel
theorem dMo_type_105 : decode cMo_type 105 = .ok (.aload_n 0, 1) := by decide +kernel
theorem dMo_type_106 : decode cMo_type 106 = .ok (.iload_n 2, 1) := by decide +kernel
theorem dMo_type_107 : decode cMo_type 107 = .ok (.invokevirtual 234, 3) := by decide +kernel
theorem dMo_type_110 : decode cMo_type 110 = .ok (.lstore 6, 2) := by decide +kernel
theorem dMo_type_112 : decode cMo_type 112 = .ok (.iload_n 1, 1) := by decide +kernel
theorem dMo_type_113 : decode cMo_type 113 = .ok (.ifCond .ne 27, 3) := by decide +kernel
theorem dMo_type_116 : decode cMo_type 116 = .ok (.lload 4, 2) := by decide +kernel
theorem dMo_type_118 : decode cMo_type 118 = .ok (.aload_n 0, 1) := by decide +kernel
theorem dMo_type_119 : decode cMo_type 119 = .ok (.getfield 42, 3) := by decide +kernel
theorem dMo_type_122 : decode cMo_type 122 = .ok (.iload_n 2, 1) := by decide +kernel
theorem dMo_type_123 : decode cMo_type 123 = .ok (.laload, 1) := by decide +kernel
theorem dMo_type_124 : decode cMo_type 124 = .ok (.lcmp, 1) := by decide +kernel
theorem dMo_type_125 : decode cMo_type 125 = .ok (.ifCond .ne 15, 3) := by decide +kernel
theorem dMo_type_128 : decode cMo_type 128 = .ok (.lload 6, 2) := by decide +kernel
theorem dMo_type_130 : decode cMo_type 130 = .ok (.aload_n 0, 1) := by decide +kernel
theorem dMo_type_131 : decode cMo_type 131 = .ok (.getfield 39, 3) := by decide +kernel
theorem dMo_type_134 : decode cMo_type 134 = .ok (.iload_n 2, 1) := by decide +kernel
theorem dMo_type_135 : decode cMo_type 135 = .ok (.laload, 1) := by decide +kernel
theorem dMo_type_136 : decode cMo_type 136 = .ok (.lcmp, 1) := by decide +kernel
theorem dMo_type_137 : decode cMo_type 137 = .ok (.ifCond .eq 7, 3) := by decide +kernel
theorem dMo_type_140 : decode cMo_type 140 = .ok (.iconst 1, 1) := by decide +kernel
theorem dMo_type_141 : decode cMo_type 141 = .ok (.goto 4, 3) := by decide +kernel
theorem dMo_type_144 : decode cMo_type 144 = .ok (.iconst 0, 1) := by decide +kernel
theorem dMo_type_145 : decode cMo_type 145 = .ok (.istore_n 1, 1) := by decide +kernel
theorem dMo_type_146 : decode cMo_type 146 = .ok (.aload_n 0, 1) := by decide +kernel
theorem dMo_type_147 : decode cMo_type 147 = .ok (.getfield 42, 3) := by decide +kernel
theorem dMo_type_150 : decode cMo_type 150 = .ok (.iload_n 2, 1) := by decide +kernel
theorem dMo_type_151 : decode cMo_type 151 = .ok (.lload 4, 2) := by decide +kernel
theorem dMo_type_153 : decode cMo_type 153 = .ok (.lastore, 1) := by decide +kernel
theorem dMo_type_154 : decode cMo_type 154 = .ok (.aload_n 0, 1) := by decide +kernel
theorem dMo_type_155 : decode cMo_type 155 = .ok (.getfield 39, 3) := by decide +kernel
theorem dMo_type_158 : decode cMo_type 158 = .ok (.iload_n 2, 1) := by decide +kernel
theorem dMo_type_159 : decode cMo_type 159 = .ok (.lload 6, 2) := by decide +kernel
theorem dMo_type_161 : decode cMo_type 161 = .ok (.lastore, 1) := by decide +kernel
theorem dMo_type_162 : decode cMo_type 162 = .ok (.aload_n 0, 1) := by decide +kernel
theorem dMo_type_163 : decode cMo_type 163 = .ok (.iload_n 2, 1) := by decide +kernel
theorem dMo_type_164 : decode cMo_type 164 = .ok (.invokevirtual 237, 3) := by decide +kernel
theorem dMo_type_167 : decode cMo_type 167 = .ok (.istore 8, 2) := by decide +kernel
theorem dMo_type_169 : decode cMo_type 169 = .ok (.iload_n 1, 1) := by decide +kernel
theorem dMo_type_170 : decode cMo_type 170 = .ok (.ifCond .ne 14, 3) := by decide +kernel
theorem dMo_type_173 : decode cMo_type 173 = .ok (.iload 8, 2) := by decide +kernel
theorem dMo_type_175 : decode cMo_type 175 = .ok (.aload_n 0, 1) := by decide +kernel
theorem dMo_type_176 : decode cMo_type 176 = .ok (.getfield 45, 3) := by decide +kernel
theorem dMo_type_179 : decode cMo_type 179 = .ok (.iload_n 2, 1) := by decide +kernel
theorem dMo_type_180 : decode cMo_type 180 = .ok (.iaload, 1) := by decide +kernel
theorem dMo_type_181 : decode cMo_type 181 = .ok (.if_icmp .eq 7, 3) := by decide +kernel
theorem dMo_type_184 : decode cMo_type 184 = .ok (.iconst 1, 1) := by decide +kernel
theorem dMo_type_185 : decode cMo_type 185 = .ok (.goto 4, 3) := by decide +kernel
theorem dMo_type_188 : decode cMo_type 188 = .ok (.iconst 0, 1) := by decide +kernel
theorem dMo_type_189 : decode cMo_type 189 = .ok (.istore_n 1, 1) := by decide +kernel
theorem dMo_type_190 : decode cMo_type 190 = .ok (.aload_n 0, 1) := by decide +kernel
theorem dMo_type_191 : decode cMo_type 191 = .ok (.getfield 45, 3) := by decide +kernel
theorem dMo_type_194 : decode cMo_type 194 = .ok (.iload_n 2, 1) := by decide +kernel
theorem dMo_type_195 : decode cMo_type 195 = .ok (.iload 8, 2) := by decide +kernel
theorem dMo_type_197 : decode cMo_type 197 = .ok (.iastore, 1) := by decide +kernel
theorem dMo_type_198 : decode cMo_type 198 = .ok (.iinc 2 (-1), 3) := by decide +kernel
theorem dMo_type_201 : decode cMo_type 201 = .ok (.goto (-136), 3) := by decide +kernel
theorem dMo_type_204 : decode cMo_type 204 = .ok (.goto (-152), 3) := by decide +kernel
theorem dMo_type_207 : decode cMo_type 207 = .ok (.return_, 1) := by decide +kernel
def f_Mo_type_J189  (v1 : Int32) (v2 : Int32) (v3 : Int32) (v4 : Int64) (v6 : Int64) (v8 : Int32) (u0 : Int32) (σ : Mem) : Option ((Int32 × Int32 × Mem) ⊕ ((Int32 × Mem) ⊕ (Unit × Mem))) :=
  gd (inb v2 48) (lt_ (sI σ 26 v2.toNatClampNeg v8) fun (σ2 : Mem) =>
  lt_ (v2 + (-1)) fun (x3 : Int32) =>
  some (.inl (u0, x3, σ2)))
def f_Mo_type_J184  (v1 : Int32) (v2 : Int32) (v3 : Int32) (v4 : Int64) (v6 : Int64) (v8 : Int32) (σ : Mem) : Option ((Int32 × Int32 × Mem) ⊕ ((Int32 × Mem) ⊕ (Unit × Mem))) :=
  f_Mo_type_J189 v1 v2 v3 v4 v6 v8 (1 : Int32) σ
def f_Mo_type_J145  (v1 : Int32) (v2 : Int32) (v3 : Int32) (v4 : Int64) (v6 : Int64) (u0 : Int32) (σ : Mem) : Option ((Int32 × Int32 × Mem) ⊕ ((Int32 × Mem) ⊕ (Unit × Mem))) :=
  gd (inb v2 48) (lt_ (sL σ 25 v2.toNatClampNeg v4) fun (σ5 : Mem) =>
  gd (inb v2 48) (lt_ (sL σ5 24 v2.toNatClampNeg v6) fun (σ7 : Mem) =>
  bn (f_Mo_markOf v2 σ7) fun (r10 : Int32) (σ9 : Mem) =>
  if u0 = 0 then (
  gd (inb v2 48) (
  if r10 = (σ9.1 26 v2.toNatClampNeg) then (
  f_Mo_type_J189 u0 v2 v3 v4 v6 r10 (0 : Int32) σ9)
  else (
  f_Mo_type_J184 u0 v2 v3 v4 v6 r10 σ9)))
  else (
  f_Mo_type_J184 u0 v2 v3 v4 v6 r10 σ9)))
def f_Mo_type_J140  (v1 : Int32) (v2 : Int32) (v3 : Int32) (v4 : Int64) (v6 : Int64) (σ : Mem) : Option ((Int32 × Int32 × Mem) ⊕ ((Int32 × Mem) ⊕ (Unit × Mem))) :=
  f_Mo_type_J145 v1 v2 v3 v4 v6 (1 : Int32) σ
def f_Mo_type_J103  (v1 : Int32) (v2 : Int32) (v3 : Int32) (u0 : Int64) (σ : Mem) : Option ((Int32 × Int32 × Mem) ⊕ ((Int32 × Mem) ⊕ (Unit × Mem))) :=
  bn (f_Mo_gotOf v2 σ) fun (r14 : Int64) (σ13 : Mem) =>
  if v1 = 0 then (
  gd (inb v2 48) (
  if (lg_cmp u0 (σ13.2 25 v2.toNatClampNeg)) = 0 then (
  gd (inb v2 48) (
  if (lg_cmp r14 (σ13.2 24 v2.toNatClampNeg)) = 0 then (
  f_Mo_type_J145 v1 v2 v3 u0 r14 (0 : Int32) σ13)
  else (
  f_Mo_type_J140 v1 v2 v3 u0 r14 σ13)))
  else (
  f_Mo_type_J140 v1 v2 v3 u0 r14 σ13)))
  else (
  f_Mo_type_J140 v1 v2 v3 u0 r14 σ13)
def f_Mo_type_J100  (v1 : Int32) (v2 : Int32) (v3 : Int32) (u1 : Int32) (u2 : Int32) (σ : Mem) : Option ((Int32 × Int32 × Mem) ⊕ ((Int32 × Mem) ⊕ (Unit × Mem))) :=
  bn (f_Mo_wantedOf u1 u2 σ) fun (r19 : Int64) (σ18 : Mem) =>
  f_Mo_type_J103 v1 v2 v3 r19 σ18
def f_Mo_type_L65   (v1 : Int32) (v2 : Int32) (σ : Mem) : Option ((Int32 × Int32 × Mem) ⊕ ((Int32 × Mem) ⊕ (Unit × Mem))) :=
  if v2 < 0 then (
  inrM (some (.inl (v1, σ))))
  else (
  bn (f_Mo_above v2 σ) fun (r23 : Int32) (σ22 : Mem) =>
  if 0 ≤ r23 then (
  bn (f_Mo_part r23 (0 : Int32) σ22) fun (r26 : Int32) (σ25 : Mem) =>
  if r26 = v2 then (
  f_Mo_type_J100 v1 v2 r23 r23 (0 : Int32) σ25)
  else (
  f_Mo_type_J100 v1 v2 r23 r23 (1 : Int32) σ25))
  else (
  f_Mo_type_J103 v1 v2 r23 (0 : Int64) σ22))
def f_Mo_type_L52   (v1 : Int32) (σ : Mem) : Option ((Int32 × Mem) ⊕ (Unit × Mem)) :=
  if v1 = 0 then (
  inrM (some ((), σ)))
  else (
  lt_ (0 : Int32) fun (x28 : Int32) =>
  lt_ ((σ.1 15 0) - (1 : Int32)) fun (x29 : Int32) =>
  loopF (fun (q : (Int32 × Int32 × Mem)) => f_Mo_type_L65 q.1 q.2.1 q.2.2) FU (x28, x29, σ))
def f_Mo_type_L15   (v1 : Int32) (σ : Mem) : Option ((Int32 × Mem) ⊕ (Unit × Mem)) :=
  if (σ.1 15 0) ≤ v1 then (
  inrM (lt_ (1 : Int32) fun (x31 : Int32) =>
  loopF (fun (q : (Int32 × Mem)) => f_Mo_type_L52 q.1 q.2) FU (x31, σ)))
  else (
  gd (inb v1 48) (lt_ (sL σ 24 v1.toNatClampNeg (1 : Int64)) fun (σ33 : Mem) =>
  gd (inb v1 48) (lt_ (sL σ33 25 v1.toNatClampNeg (0 : Int64)) fun (σ35 : Mem) =>
  gd (inb v1 48) (lt_ (sI σ35 26 v1.toNatClampNeg (0 : Int32)) fun (σ37 : Mem) =>
  lt_ (v1 + 1) fun (x38 : Int32) =>
  some (.inl (x38, σ37))))))
def f_Mo_type   (σ : Mem) : Option (Unit × Mem) :=
  if (σ.1 15 12) = 0 then (
  lt_ (sI σ 15 12 (1 : Int32)) fun (σ39 : Mem) =>
  lt_ (0 : Int32) fun (x40 : Int32) =>
  loopF (fun (q : (Int32 × Mem)) => f_Mo_type_L15 q.1 q.2) FU (x40, σ39))
  else (
  some ((), σ))
set_option maxHeartbeats 4000000 in
set_option maxRecDepth 100000 in
theorem c_Mo_type (l : Launch) (g : Gw) (hg : wInj g) {σ σ0 : Mem} (h : f_Mo_type σ = some ((), σ0)) : KV l yMo_type cMo_type 9 none 4 g [.ref (ad g 15)] σ σ0 := by
  refine q_met g hg (own := "TermBenchModel") rfl rfl (Nat.le_of_ble_eq_true rfl) (fun p e s m args below meth c R Q cx hRk hr hQ H locs ls hP hS hl => ?_)
  have hx := cx.1
  have hb := cx.2.1
  have hown := cx.2.2.2.1
  have hts := cx.2.2.2.2.1
  have hl : lv_has ls 9 [(0, .ref (ad g 15))] := hl
  unfold f_Mo_type at h
  refine lv_aload_n hx hb dMo_type_0 rfl (lv_at hl 0 rfl) ?_
  refine g_Mo_typed cx hP  t_542 dMo_type_1 ?_
  refine lv_if_eq (tgt := 8) hx hb dMo_type_4 (by decide) (fun hc => ?_) (fun hc => ?_)
  · replace h := if_t h hc
    refine lv_aload_n hx hb dMo_type_8 rfl (lv_at hl 0 rfl) ?_
    refine lv_iconst (v := 1) hx hb dMo_type_9 (by decide) ?_
    obtain ⟨σ39, eσ39, h⟩ := lt_some h
    refine p_Mo_typed cx hP hS t_542 dMo_type_10 rfl rfl eσ39 (fun H locs hP hS => ?_)
    refine lv_iconst (v := 0) hx hb dMo_type_13 (by decide) ?_
    obtain ⟨x40, ex40, h⟩ := lt_some h
    refine q_nmi ex40 ?_
    refine lv_istore_n (lv' := [(1, .int x40), (0, .ref (ad g 15))]) hx hb dMo_type_14 rfl hl (Nat.le_of_ble_eq_true rfl) rfl (fun ls hl => ?_)
    have L15 : ∀ (n : Nat) (v1 : Int32) (σ : Mem), loopF (fun (q : (Int32 × Mem)) => f_Mo_type_L15 q.1 q.2) n (v1, σ) = some ((), σ0) → ∀ (H : Heap) (locs : List Loc) (ls : Array Slot), lv_has ls 9 [(0, .ref (ad g 15)), (1, .int v1)] → Wd g σ H → va_S (wA g) s.heap H locs → W p l e R s m args below meth c H locs 0 0 Q (F0 m 15 ls []) := by
      intro n
      induction n with
      | zero => intro v1 σ h; exact (loopF_zero h).elim
      | succ n ih15 =>
        intro v1 σ h H locs ls hl hP hS
        obtain ⟨o15, h, K15, E15⟩ := loopF_succ h
        have h : f_Mo_type_L15 v1 σ = some o15 := h
        unfold f_Mo_type_L15 at h
        refine lv_iload_n hx hb dMo_type_15 rfl (lv_at hl 1 rfl) ?_
        refine lv_aload_n hx hb dMo_type_16 rfl (lv_at hl 0 rfl) ?_
        refine g_Mo_count cx hP  t_530 dMo_type_17 ?_
        refine lv_icmp_ge (tgt := 50) hx hb dMo_type_20 (by decide) (fun hc => ?_) (fun hc => ?_)
        · replace h := if_t h hc
          obtain ⟨z30, h, ez30⟩ := inrM_some h
          rw [E15 z30 ez30] at h
          refine lv_iconst (v := 1) hx hb dMo_type_50 (by decide) ?_
          obtain ⟨x31, ex31, h⟩ := lt_some h
          refine q_nmi ex31 ?_
          refine lv_istore_n (lv' := [(1, .int x31), (0, .ref (ad g 15))]) hx hb dMo_type_51 rfl hl (Nat.le_of_ble_eq_true rfl) rfl (fun ls hl => ?_)
          have L52 : ∀ (n : Nat) (v1 : Int32) (σ : Mem), loopF (fun (q : (Int32 × Mem)) => f_Mo_type_L52 q.1 q.2) n (v1, σ) = some ((), σ0) → ∀ (H : Heap) (locs : List Loc) (ls : Array Slot), lv_has ls 9 [(0, .ref (ad g 15)), (1, .int v1)] → Wd g σ H → va_S (wA g) s.heap H locs → W p l e R s m args below meth c H locs 0 0 Q (F0 m 52 ls []) := by
            intro n
            induction n with
            | zero => intro v1 σ h; exact (loopF_zero h).elim
            | succ n ih52 =>
              intro v1 σ h H locs ls hl hP hS
              obtain ⟨o52, h, K52, E52⟩ := loopF_succ h
              have h : f_Mo_type_L52 v1 σ = some o52 := h
              unfold f_Mo_type_L52 at h
              refine lv_iload_n hx hb dMo_type_52 rfl (lv_at hl 1 rfl) ?_
              refine lv_if_eq (tgt := 207) hx hb dMo_type_53 (by decide) (fun hc => ?_) (fun hc => ?_)
              · replace h := if_t h hc
                obtain ⟨z27, h, ez27⟩ := inrM_some h
                rw [E52 z27 ez27] at h
                exact q_rv cx hr hP hS hQ h dMo_type_207
              · replace h := if_f h hc
                refine lv_iconst (v := 0) hx hb dMo_type_56 (by decide) ?_
                obtain ⟨x28, ex28, h⟩ := lt_some h
                refine q_nmi ex28 ?_
                refine lv_istore_n (lv' := [(1, .int x28), (0, .ref (ad g 15))]) hx hb dMo_type_57 rfl hl (Nat.le_of_ble_eq_true rfl) rfl (fun ls hl => ?_)
                refine lv_aload_n hx hb dMo_type_58 rfl (lv_at hl 1 rfl) ?_
                refine g_Mo_count cx hP  t_530 dMo_type_59 ?_
                refine lv_iconst (v := 1) hx hb dMo_type_62 (by decide) ?_
                refine lv_isub hx hb dMo_type_63 ?_
                obtain ⟨x29, ex29, h⟩ := lt_some h
                refine q_nmi ex29 ?_
                refine lv_istore_n (lv' := [(2, .int x29), (1, .int x28), (0, .ref (ad g 15))]) hx hb dMo_type_64 rfl hl (Nat.le_of_ble_eq_true rfl) rfl (fun ls hl => ?_)
                have L65 : ∀ (n : Nat) (v1 : Int32) (v2 : Int32) (σ : Mem), loopF (fun (q : (Int32 × Int32 × Mem)) => f_Mo_type_L65 q.1 q.2.1 q.2.2) n (v1, v2, σ) = some o52 → ∀ (H : Heap) (locs : List Loc) (ls : Array Slot), lv_has ls 9 [(0, .ref (ad g 15)), (1, .int v1), (2, .int v2)] → Wd g σ H → va_S (wA g) s.heap H locs → W p l e R s m args below meth c H locs 0 0 Q (F0 m 65 ls []) := by
                  intro n
                  induction n with
                  | zero => intro v1 v2 σ h; exact (loopF_zero h).elim
                  | succ n ih65 =>
                    intro v1 v2 σ h H locs ls hl hP hS
                    obtain ⟨o65, h, K65, E65⟩ := loopF_succ h
                    have h : f_Mo_type_L65 v1 v2 σ = some o65 := h
                    have J189 : ∀ (v1 : Int32) (v2 : Int32) (v3 : Int32) (v4 : Int64) (v6 : Int64) (v8 : Int32) (u0 : Int32) (σ : Mem), f_Mo_type_J189 v1 v2 v3 v4 v6 v8 u0 σ = some o65 → ∀ (H : Heap) (locs : List Loc) (ls : Array Slot), lv_has ls 9 [(0, .ref (ad g 15)), (1, .int v1), (2, .int v2), (3, .int v3), (4, .long v4), (6, .long v6), (8, .int v8)] → Wd g σ H → va_S (wA g) s.heap H locs → W p l e R s m args below meth c H locs 0 0 Q (F0 m 189 ls [.int u0]) := by
                      intro v1 v2 v3 v4 v6 v8 u0 σ h H locs ls hl hP hS
                      unfold f_Mo_type_J189 at h
                      refine lv_istore_n (lv' := [(1, .int u0), (0, .ref (ad g 15)), (2, .int v2), (3, .int v3), (4, .long v4), (6, .long v6), (8, .int v8)]) hx hb dMo_type_189 rfl hl (Nat.le_of_ble_eq_true rfl) rfl (fun ls hl => ?_)
                      refine lv_aload_n hx hb dMo_type_190 rfl (lv_at hl 1 rfl) ?_
                      refine g_Mo_marked cx hP  t_545 dMo_type_191 ?_
                      refine lv_iload_n hx hb dMo_type_194 rfl (lv_at hl 2 rfl) ?_
                      refine lv_iload hx hb dMo_type_195 (lv_at hl 6 rfl) ?_
                      obtain ⟨b1, h⟩ := gd_some h
                      obtain ⟨σ2, eσ2, h⟩ := lt_some h
                      refine q_iast cx hP hS (by decide) (e_26 g) b1 dMo_type_197 eσ2 (fun H locs hP hS => ?_)
                      obtain ⟨x3, ex3, h⟩ := lt_some h
                      refine lv_iinc (lv' := [(2, .int x3), (1, .int u0), (0, .ref (ad g 15)), (3, .int v3), (4, .long v4), (6, .long v6), (8, .int v8)]) hx hb dMo_type_198 hl (k := 2) rfl (q_inc ex3 (by decide)) (Nat.le_of_ble_eq_true rfl) rfl (fun ls hl => ?_)
                      refine lv_goto (tgt := 65) hx hb dMo_type_201 (by decide) ?_
                      exact ih65 _ _ _ (K65 _ (Option.some.inj h).symm) _ _ _ (lv_sub hl [2, 1, 0] rfl) hP hS
                    have J184 : ∀ (v1 : Int32) (v2 : Int32) (v3 : Int32) (v4 : Int64) (v6 : Int64) (v8 : Int32) (σ : Mem), f_Mo_type_J184 v1 v2 v3 v4 v6 v8 σ = some o65 → ∀ (H : Heap) (locs : List Loc) (ls : Array Slot), lv_has ls 9 [(0, .ref (ad g 15)), (1, .int v1), (2, .int v2), (3, .int v3), (4, .long v4), (6, .long v6), (8, .int v8)] → Wd g σ H → va_S (wA g) s.heap H locs → W p l e R s m args below meth c H locs 0 0 Q (F0 m 184 ls []) := by
                      intro v1 v2 v3 v4 v6 v8 σ h H locs ls hl hP hS
                      unfold f_Mo_type_J184 at h
                      refine lv_iconst (v := 1) hx hb dMo_type_184 (by decide) ?_
                      refine lv_goto (tgt := 189) hx hb dMo_type_185 (by decide) ?_
                      exact J189 _ _ _ _ _ _ _ _ h _ _ _ (lv_sub hl [0, 1, 2, 3, 4, 5, 6] rfl) hP hS
                    have J145 : ∀ (v1 : Int32) (v2 : Int32) (v3 : Int32) (v4 : Int64) (v6 : Int64) (u0 : Int32) (σ : Mem), f_Mo_type_J145 v1 v2 v3 v4 v6 u0 σ = some o65 → ∀ (H : Heap) (locs : List Loc) (ls : Array Slot), lv_has ls 9 [(0, .ref (ad g 15)), (1, .int v1), (2, .int v2), (3, .int v3), (4, .long v4), (6, .long v6)] → Wd g σ H → va_S (wA g) s.heap H locs → W p l e R s m args below meth c H locs 0 0 Q (F0 m 145 ls [.int u0]) := by
                      intro v1 v2 v3 v4 v6 u0 σ h H locs ls hl hP hS
                      unfold f_Mo_type_J145 at h
                      refine lv_istore_n (lv' := [(1, .int u0), (0, .ref (ad g 15)), (2, .int v2), (3, .int v3), (4, .long v4), (6, .long v6)]) hx hb dMo_type_145 rfl hl (Nat.le_of_ble_eq_true rfl) rfl (fun ls hl => ?_)
                      refine lv_aload_n hx hb dMo_type_146 rfl (lv_at hl 1 rfl) ?_
                      refine g_Mo_wanted cx hP  t_544 dMo_type_147 ?_
                      refine lv_iload_n hx hb dMo_type_150 rfl (lv_at hl 2 rfl) ?_
                      refine lv_lload hx hb dMo_type_151 (lv_at hl 4 rfl) ?_
                      obtain ⟨b4, h⟩ := gd_some h
                      obtain ⟨σ5, eσ5, h⟩ := lt_some h
                      refine q_last cx hP hS (by decide) (e_25 g) b4 dMo_type_153 eσ5 (fun H locs hP hS => ?_)
                      refine lv_aload_n hx hb dMo_type_154 rfl (lv_at hl 1 rfl) ?_
                      refine g_Mo_gots cx hP  t_543 dMo_type_155 ?_
                      refine lv_iload_n hx hb dMo_type_158 rfl (lv_at hl 2 rfl) ?_
                      refine lv_lload hx hb dMo_type_159 (lv_at hl 5 rfl) ?_
                      obtain ⟨b6, h⟩ := gd_some h
                      obtain ⟨σ7, eσ7, h⟩ := lt_some h
                      refine q_last cx hP hS (by decide) (e_24 g) b6 dMo_type_161 eσ7 (fun H locs hP hS => ?_)
                      refine lv_aload_n hx hb dMo_type_162 rfl (lv_at hl 1 rfl) ?_
                      refine lv_iload_n hx hb dMo_type_163 rfl (lv_at hl 2 rfl) ?_
                      obtain ⟨r10, σ9, h8, h⟩ := bn_some h
                      refine q_cVi (rest := []) (As := [.int v2]) cx hP hS hRk (c_Mo_markOf l g hg h8) Y_Mo_markOf V_Mo_markOf t_854 (by decide) (by decide) (e_15 g _ _) rfl rfl hl.1 rfl (Nat.le_of_ble_eq_true rfl) dMo_type_164 (fun H locs hP hS => ?_)
                      refine lv_istore (lv' := [(8, .int r10), (1, .int u0), (0, .ref (ad g 15)), (2, .int v2), (3, .int v3), (4, .long v4), (6, .long v6)]) hx hb dMo_type_167 hl (Nat.le_of_ble_eq_true rfl) rfl (fun ls hl => ?_)
                      refine lv_iload_n hx hb dMo_type_169 rfl (lv_at hl 1 rfl) ?_
                      refine lv_if_ne (tgt := 184) hx hb dMo_type_170 (by decide) (fun hc => ?_) (fun hc => ?_)
                      · replace h := if_f h hc
                        exact J184 _ _ _ _ _ _ _ h _ _ _ (lv_sub hl [2, 1, 3, 4, 5, 6, 0] rfl) hP hS
                      · replace h := if_t h hc
                        refine lv_iload hx hb dMo_type_173 (lv_at hl 0 rfl) ?_
                        refine lv_aload_n hx hb dMo_type_175 rfl (lv_at hl 2 rfl) ?_
                        refine g_Mo_marked cx hP  t_545 dMo_type_176 ?_
                        refine lv_iload_n hx hb dMo_type_179 rfl (lv_at hl 3 rfl) ?_
                        obtain ⟨b11, h⟩ := gd_some h
                        refine q_iald cx hP (by decide) (e_26 g) b11 dMo_type_180 ?_
                        refine lv_icmp_eq (tgt := 188) hx hb dMo_type_181 (by decide) (fun hc => ?_) (fun hc => ?_)
                        · replace h := if_t h hc
                          refine lv_iconst (v := 0) hx hb dMo_type_188 (by decide) ?_
                          exact J189 _ _ _ _ _ _ _ _ h _ _ _ (lv_sub hl [2, 1, 3, 4, 5, 6, 0] rfl) hP hS
                        · replace h := if_f h hc
                          exact J184 _ _ _ _ _ _ _ h _ _ _ (lv_sub hl [2, 1, 3, 4, 5, 6, 0] rfl) hP hS
                    have J140 : ∀ (v1 : Int32) (v2 : Int32) (v3 : Int32) (v4 : Int64) (v6 : Int64) (σ : Mem), f_Mo_type_J140 v1 v2 v3 v4 v6 σ = some o65 → ∀ (H : Heap) (locs : List Loc) (ls : Array Slot), lv_has ls 9 [(0, .ref (ad g 15)), (1, .int v1), (2, .int v2), (3, .int v3), (4, .long v4), (6, .long v6)] → Wd g σ H → va_S (wA g) s.heap H locs → W p l e R s m args below meth c H locs 0 0 Q (F0 m 140 ls []) := by
                      intro v1 v2 v3 v4 v6 σ h H locs ls hl hP hS
                      unfold f_Mo_type_J140 at h
                      refine lv_iconst (v := 1) hx hb dMo_type_140 (by decide) ?_
                      refine lv_goto (tgt := 145) hx hb dMo_type_141 (by decide) ?_
                      exact J145 _ _ _ _ _ _ _ h _ _ _ (lv_sub hl [0, 1, 2, 3, 4, 5] rfl) hP hS
                    have J103 : ∀ (v1 : Int32) (v2 : Int32) (v3 : Int32) (u0 : Int64) (σ : Mem), f_Mo_type_J103 v1 v2 v3 u0 σ = some o65 → ∀ (H : Heap) (locs : List Loc) (ls : Array Slot), lv_has ls 9 [(0, .ref (ad g 15)), (1, .int v1), (2, .int v2), (3, .int v3)] → Wd g σ H → va_S (wA g) s.heap H locs → W p l e R s m args below meth c H locs 0 0 Q (F0 m 103 ls [.long u0]) := by
                      intro v1 v2 v3 u0 σ h H locs ls hl hP hS
                      unfold f_Mo_type_J103 at h
                      refine lv_lstore (lv' := [(4, .long u0), (0, .ref (ad g 15)), (1, .int v1), (2, .int v2), (3, .int v3)]) hx hb dMo_type_103 hl (Nat.le_of_ble_eq_true rfl) rfl (fun ls hl => ?_)
                      refine lv_aload_n hx hb dMo_type_105 rfl (lv_at hl 1 rfl) ?_
                      refine lv_iload_n hx hb dMo_type_106 rfl (lv_at hl 3 rfl) ?_
                      obtain ⟨r14, σ13, h12, h⟩ := bn_some h
                      refine q_cVl (rest := []) (As := [.int v2]) cx hP hS hRk (c_Mo_gotOf l g hg h12) Y_Mo_gotOf V_Mo_gotOf t_843 (by decide) (by decide) (e_15 g _ _) rfl rfl hl.1 rfl (Nat.le_of_ble_eq_true rfl) dMo_type_107 (fun H locs hP hS => ?_)
                      refine lv_lstore (lv' := [(6, .long r14), (4, .long u0), (0, .ref (ad g 15)), (1, .int v1), (2, .int v2), (3, .int v3)]) hx hb dMo_type_110 hl (Nat.le_of_ble_eq_true rfl) rfl (fun ls hl => ?_)
                      refine lv_iload_n hx hb dMo_type_112 rfl (lv_at hl 3 rfl) ?_
                      refine lv_if_ne (tgt := 140) hx hb dMo_type_113 (by decide) (fun hc => ?_) (fun hc => ?_)
                      · replace h := if_f h hc
                        exact J140 _ _ _ _ _ _ h _ _ _ (lv_sub hl [2, 3, 4, 5, 1, 0] rfl) hP hS
                      · replace h := if_t h hc
                        refine lv_lload hx hb dMo_type_116 (lv_at hl 1 rfl) ?_
                        refine lv_aload_n hx hb dMo_type_118 rfl (lv_at hl 2 rfl) ?_
                        refine g_Mo_wanted cx hP  t_544 dMo_type_119 ?_
                        refine lv_iload_n hx hb dMo_type_122 rfl (lv_at hl 4 rfl) ?_
                        obtain ⟨b15, h⟩ := gd_some h
                        refine q_lald cx hP (by decide) (e_25 g) b15 dMo_type_123 ?_
                        refine W.lcmp hx hb dMo_type_124 ?_
                        refine lv_if_ne (tgt := 140) hx hb dMo_type_125 (by decide) (fun hc => ?_) (fun hc => ?_)
                        · replace h := if_f h hc
                          exact J140 _ _ _ _ _ _ h _ _ _ (lv_sub hl [2, 3, 4, 5, 1, 0] rfl) hP hS
                        · replace h := if_t h hc
                          refine lv_lload hx hb dMo_type_128 (lv_at hl 0 rfl) ?_
                          refine lv_aload_n hx hb dMo_type_130 rfl (lv_at hl 2 rfl) ?_
                          refine g_Mo_gots cx hP  t_543 dMo_type_131 ?_
                          refine lv_iload_n hx hb dMo_type_134 rfl (lv_at hl 4 rfl) ?_
                          obtain ⟨b16, h⟩ := gd_some h
                          refine q_lald cx hP (by decide) (e_24 g) b16 dMo_type_135 ?_
                          refine W.lcmp hx hb dMo_type_136 ?_
                          refine lv_if_eq (tgt := 144) hx hb dMo_type_137 (by decide) (fun hc => ?_) (fun hc => ?_)
                          · replace h := if_t h hc
                            refine lv_iconst (v := 0) hx hb dMo_type_144 (by decide) ?_
                            exact J145 _ _ _ _ _ _ _ h _ _ _ (lv_sub hl [2, 3, 4, 5, 1, 0] rfl) hP hS
                          · replace h := if_f h hc
                            exact J140 _ _ _ _ _ _ h _ _ _ (lv_sub hl [2, 3, 4, 5, 1, 0] rfl) hP hS
                    have J100 : ∀ (v1 : Int32) (v2 : Int32) (v3 : Int32) (u1 : Int32) (u2 : Int32) (σ : Mem), f_Mo_type_J100 v1 v2 v3 u1 u2 σ = some o65 → ∀ (H : Heap) (locs : List Loc) (ls : Array Slot), lv_has ls 9 [(0, .ref (ad g 15)), (1, .int v1), (2, .int v2), (3, .int v3)] → Wd g σ H → va_S (wA g) s.heap H locs → W p l e R s m args below meth c H locs 0 0 Q (F0 m 100 ls [.int u2, .int u1, .ref (ad g 15)]) := by
                      intro v1 v2 v3 u1 u2 σ h H locs ls hl hP hS
                      unfold f_Mo_type_J100 at h
                      obtain ⟨r19, σ18, h17, h⟩ := bn_some h
                      refine q_cVl (rest := []) (As := [.int u1, .int u2]) cx hP hS hRk (c_Mo_wantedOf l g hg h17) Y_Mo_wantedOf V_Mo_wantedOf t_822 (by decide) (by decide) (e_15 g _ _) rfl rfl hl.1 rfl (Nat.le_of_ble_eq_true rfl) dMo_type_100 (fun H locs hP hS => ?_)
                      exact J103 _ _ _ _ _ h _ _ _ (lv_sub hl [0, 1, 2, 3] rfl) hP hS
                    unfold f_Mo_type_L65 at h
                    refine lv_iload_n hx hb dMo_type_65 rfl (lv_at hl 2 rfl) ?_
                    refine lv_if_lt (tgt := 204) hx hb dMo_type_66 (by decide) (fun hc => ?_) (fun hc => ?_)
                    · replace h := if_t h hc
                      obtain ⟨z20, h, ez20⟩ := inrM_some h
                      rw [E65 z20 ez20] at h
                      refine lv_goto (tgt := 52) hx hb dMo_type_204 (by decide) ?_
                      exact ih52 _ _ (K52 _ (Option.some.inj h).symm) _ _ _ (lv_sub hl [0, 1] rfl) hP hS
                    · replace h := if_f h hc
                      refine lv_aload_n hx hb dMo_type_69 rfl (lv_at hl 0 rfl) ?_
                      refine lv_iload_n hx hb dMo_type_70 rfl (lv_at hl 2 rfl) ?_
                      obtain ⟨r23, σ22, h21, h⟩ := bn_some h
                      refine q_cVi (rest := []) (As := [.int v2]) cx hP hS hRk (c_Mo_above l g hg h21) Y_Mo_above V_Mo_above t_754 (by decide) (by decide) (e_15 g _ _) rfl rfl hl.1 rfl (Nat.le_of_ble_eq_true rfl) dMo_type_71 (fun H locs hP hS => ?_)
                      refine lv_istore_n (lv' := [(3, .int r23), (0, .ref (ad g 15)), (1, .int v1), (2, .int v2)]) hx hb dMo_type_74 rfl hl (Nat.le_of_ble_eq_true rfl) rfl (fun ls hl => ?_)
                      refine lv_iload_n hx hb dMo_type_75 rfl (lv_at hl 0 rfl) ?_
                      refine lv_if_ge (tgt := 83) hx hb dMo_type_76 (by decide) (fun hc => ?_) (fun hc => ?_)
                      · replace h := if_t h hc
                        refine lv_aload_n hx hb dMo_type_83 rfl (lv_at hl 1 rfl) ?_
                        refine lv_iload_n hx hb dMo_type_84 rfl (lv_at hl 0 rfl) ?_
                        refine lv_aload_n hx hb dMo_type_85 rfl (lv_at hl 1 rfl) ?_
                        refine lv_iload_n hx hb dMo_type_86 rfl (lv_at hl 0 rfl) ?_
                        refine lv_iconst (v := 0) hx hb dMo_type_87 (by decide) ?_
                        obtain ⟨r26, σ25, h24, h⟩ := bn_some h
                        refine q_cVi (rest := [.int r23, .ref (ad g 15)]) (As := [.int r23, .int (0 : Int32)]) cx hP hS hRk (c_Mo_part l g hg h24) Y_Mo_part V_Mo_part t_766 (by decide) (by decide) (e_15 g _ _) rfl rfl hl.1 rfl (Nat.le_of_ble_eq_true rfl) dMo_type_88 (fun H locs hP hS => ?_)
                        refine lv_iload_n hx hb dMo_type_91 rfl (lv_at hl 3 rfl) ?_
                        refine lv_icmp_ne (tgt := 99) hx hb dMo_type_92 (by decide) (fun hc => ?_) (fun hc => ?_)
                        · replace h := if_f h hc
                          refine lv_iconst (v := 1) hx hb dMo_type_99 (by decide) ?_
                          exact J100 _ _ _ _ _ _ h _ _ _ (lv_sub hl [1, 2, 3, 0] rfl) hP hS
                        · replace h := if_t h hc
                          refine lv_iconst (v := 0) hx hb dMo_type_95 (by decide) ?_
                          refine lv_goto (tgt := 100) hx hb dMo_type_96 (by decide) ?_
                          exact J100 _ _ _ _ _ _ h _ _ _ (lv_sub hl [1, 2, 3, 0] rfl) hP hS
                      · replace h := if_f h hc
                        refine lv_lconst (v := 0) hx hb dMo_type_79 rfl ?_
                        refine lv_goto (tgt := 103) hx hb dMo_type_80 (by decide) ?_
                        exact J103 _ _ _ _ _ h _ _ _ (lv_sub hl [1, 2, 3, 0] rfl) hP hS
                exact L65 _ _ _ _ h _ _ _ (lv_sub hl [2, 1, 0] rfl) hP hS
          exact L52 _ _ _ h _ _ _ (lv_sub hl [1, 0] rfl) hP hS
        · replace h := if_f h hc
          refine lv_aload_n hx hb dMo_type_23 rfl (lv_at hl 0 rfl) ?_
          refine g_Mo_gots cx hP  t_543 dMo_type_24 ?_
          refine lv_iload_n hx hb dMo_type_27 rfl (lv_at hl 1 rfl) ?_
          refine lv_lconst (v := 1) hx hb dMo_type_28 rfl ?_
          obtain ⟨b32, h⟩ := gd_some h
          obtain ⟨σ33, eσ33, h⟩ := lt_some h
          refine q_last cx hP hS (by decide) (e_24 g) b32 dMo_type_29 eσ33 (fun H locs hP hS => ?_)
          refine lv_aload_n hx hb dMo_type_30 rfl (lv_at hl 0 rfl) ?_
          refine g_Mo_wanted cx hP  t_544 dMo_type_31 ?_
          refine lv_iload_n hx hb dMo_type_34 rfl (lv_at hl 1 rfl) ?_
          refine lv_lconst (v := 0) hx hb dMo_type_35 rfl ?_
          obtain ⟨b34, h⟩ := gd_some h
          obtain ⟨σ35, eσ35, h⟩ := lt_some h
          refine q_last cx hP hS (by decide) (e_25 g) b34 dMo_type_36 eσ35 (fun H locs hP hS => ?_)
          refine lv_aload_n hx hb dMo_type_37 rfl (lv_at hl 0 rfl) ?_
          refine g_Mo_marked cx hP  t_545 dMo_type_38 ?_
          refine lv_iload_n hx hb dMo_type_41 rfl (lv_at hl 1 rfl) ?_
          refine lv_iconst (v := 0) hx hb dMo_type_42 (by decide) ?_
          obtain ⟨b36, h⟩ := gd_some h
          obtain ⟨σ37, eσ37, h⟩ := lt_some h
          refine q_iast cx hP hS (by decide) (e_26 g) b36 dMo_type_43 eσ37 (fun H locs hP hS => ?_)
          obtain ⟨x38, ex38, h⟩ := lt_some h
          refine lv_iinc (lv' := [(1, .int x38), (0, .ref (ad g 15))]) hx hb dMo_type_44 hl (k := 1) rfl (q_inc ex38 (by decide)) (Nat.le_of_ble_eq_true rfl) rfl (fun ls hl => ?_)
          refine lv_goto (tgt := 15) hx hb dMo_type_47 (by decide) ?_
          exact ih15 _ _ (K15 _ (Option.some.inj h).symm) _ _ _ (lv_sub hl [1, 0] rfl) hP hS
    exact L15 _ _ _ h _ _ _ (lv_sub hl [1, 0] rfl) hP hS
  · replace h := if_f h hc
    exact q_rv cx hr hP hS hQ h dMo_type_7
theorem dMo_mark_0 : decode cMo_mark 0 = .ok (.aload_n 0, 1) := by decide +kernel
theorem dMo_mark_1 : decode cMo_mark 1 = .ok (.invokevirtual 240, 3) := by decide +kernel
theorem dMo_mark_4 : decode cMo_mark 4 = .ok (.aload_n 0, 1) := by decide +kernel
theorem dMo_mark_5 : decode cMo_mark 5 = .ok (.getfield 45, 3) := by decide +kernel
theorem dMo_mark_8 : decode cMo_mark 8 = .ok (.aload_n 0, 1) := by decide +kernel
theorem dMo_mark_9 : decode cMo_mark 9 = .ok (.getfield 123, 3) := by decide +kernel
theorem dMo_mark_12 : decode cMo_mark 12 = .ok (.iaload, 1) := by decide +kernel
theorem dMo_mark_13 : decode cMo_mark 13 = .ok (.ireturn, 1) := by decide +kernel
def f_Mo_mark   (σ : Mem) : Option (Int32 × Mem) :=
  bn (f_Mo_type σ) fun (_ : Unit) (σ2 : Mem) =>
  gd (inb (σ2.1 15 1) 48) (
  some (σ2.1 26 (σ2.1 15 1).toNatClampNeg, σ2))
set_option maxHeartbeats 4000000 in
set_option maxRecDepth 100000 in
theorem c_Mo_mark (l : Launch) (g : Gw) (hg : wInj g) {r0 : Int32} {σ σ0 : Mem} (h : f_Mo_mark σ = some (r0, σ0)) : KI l yMo_mark cMo_mark 1 (some .int) 5 g [.ref (ad g 15)] σ r0 σ0 := by
  refine q_met g hg (own := "TermBenchModel") rfl rfl (Nat.le_of_ble_eq_true rfl) (fun p e s m args below meth c R Q cx hRk hr hQ H locs ls hP hS hl => ?_)
  have hx := cx.1
  have hb := cx.2.1
  have hown := cx.2.2.2.1
  have hts := cx.2.2.2.2.1
  have hl : lv_has ls 1 [(0, .ref (ad g 15))] := hl
  unfold f_Mo_mark at h
  refine lv_aload_n hx hb dMo_mark_0 rfl (lv_at hl 0 rfl) ?_
  obtain ⟨rh1, σ2, h1, h⟩ := bn_some h
  refine q_cVv (rest := []) (As := []) cx hP hS hRk (c_Mo_type l g hg h1) Y_Mo_type V_Mo_type t_818 (by decide) (by decide) (e_15 g _ _) rfl rfl hl.1 rfl (Nat.le_of_ble_eq_true rfl) dMo_mark_1 (fun H locs hP hS => ?_)
  refine lv_aload_n hx hb dMo_mark_4 rfl (lv_at hl 0 rfl) ?_
  refine g_Mo_marked cx hP  t_545 dMo_mark_5 ?_
  refine lv_aload_n hx hb dMo_mark_8 rfl (lv_at hl 0 rfl) ?_
  refine g_Mo_cursor cx hP  t_531 dMo_mark_9 ?_
  obtain ⟨b3, h⟩ := gd_some h
  refine q_iald cx hP (by decide) (e_26 g) b3 dMo_mark_12 ?_
  exact q_ri cx hr rfl hP hS hQ h dMo_mark_13
theorem dMo_got_0 : decode cMo_got 0 = .ok (.aload_n 0, 1) := by decide +kernel
theorem dMo_got_1 : decode cMo_got 1 = .ok (.invokevirtual 240, 3) := by decide +kernel
theorem dMo_got_4 : decode cMo_got 4 = .ok (.aload_n 0, 1) := by decide +kernel
theorem dMo_got_5 : decode cMo_got 5 = .ok (.getfield 39, 3) := by decide +kernel
theorem dMo_got_8 : decode cMo_got 8 = .ok (.aload_n 0, 1) := by decide +kernel
theorem dMo_got_9 : decode cMo_got 9 = .ok (.getfield 123, 3) := by decide +kernel
theorem dMo_got_12 : decode cMo_got 12 = .ok (.laload, 1) := by decide +kernel
theorem dMo_got_13 : decode cMo_got 13 = .ok (.lreturn, 1) := by decide +kernel
def f_Mo_got   (σ : Mem) : Option (Int64 × Mem) :=
  bn (f_Mo_type σ) fun (_ : Unit) (σ2 : Mem) =>
  gd (inb (σ2.1 15 1) 48) (
  some (σ2.2 24 (σ2.1 15 1).toNatClampNeg, σ2))
set_option maxHeartbeats 4000000 in
set_option maxRecDepth 100000 in
theorem c_Mo_got (l : Launch) (g : Gw) (hg : wInj g) {r0 : Int64} {σ σ0 : Mem} (h : f_Mo_got σ = some (r0, σ0)) : KL l yMo_got cMo_got 1 (some .long) 5 g [.ref (ad g 15)] σ r0 σ0 := by
  refine q_met g hg (own := "TermBenchModel") rfl rfl (Nat.le_of_ble_eq_true rfl) (fun p e s m args below meth c R Q cx hRk hr hQ H locs ls hP hS hl => ?_)
  have hx := cx.1
  have hb := cx.2.1
  have hown := cx.2.2.2.1
  have hts := cx.2.2.2.2.1
  have hl : lv_has ls 1 [(0, .ref (ad g 15))] := hl
  unfold f_Mo_got at h
  refine lv_aload_n hx hb dMo_got_0 rfl (lv_at hl 0 rfl) ?_
  obtain ⟨rh1, σ2, h1, h⟩ := bn_some h
  refine q_cVv (rest := []) (As := []) cx hP hS hRk (c_Mo_type l g hg h1) Y_Mo_type V_Mo_type t_818 (by decide) (by decide) (e_15 g _ _) rfl rfl hl.1 rfl (Nat.le_of_ble_eq_true rfl) dMo_got_1 (fun H locs hP hS => ?_)
  refine lv_aload_n hx hb dMo_got_4 rfl (lv_at hl 0 rfl) ?_
  refine g_Mo_gots cx hP  t_543 dMo_got_5 ?_
  refine lv_aload_n hx hb dMo_got_8 rfl (lv_at hl 0 rfl) ?_
  refine g_Mo_cursor cx hP  t_531 dMo_got_9 ?_
  obtain ⟨b3, h⟩ := gd_some h
  refine q_lald cx hP (by decide) (e_24 g) b3 dMo_got_12 ?_
  exact q_rl cx hr hP hS hQ h dMo_got_13
theorem dMo_expected_0 : decode cMo_expected 0 = .ok (.aload_n 0, 1) := by decide +kernel
theorem dMo_expected_1 : decode cMo_expected 1 = .ok (.invokevirtual 240, 3) := by decide +kernel
theorem dMo_expected_4 : decode cMo_expected 4 = .ok (.aload_n 0, 1) := by decide +kernel
theorem dMo_expected_5 : decode cMo_expected 5 = .ok (.getfield 42, 3) := by decide +kernel
theorem dMo_expected_8 : decode cMo_expected 8 = .ok (.aload_n 0, 1) := by decide +kernel
theorem dMo_expected_9 : decode cMo_expected 9 = .ok (.getfield 123, 3) := by decide +kernel
theorem dMo_expected_12 : decode cMo_expected 12 = .ok (.laload, 1) := by decide +kernel
theorem dMo_expected_13 : decode cMo_expected 13 = .ok (.lreturn, 1) := by decide +kernel
def f_Mo_expected   (σ : Mem) : Option (Int64 × Mem) :=
  bn (f_Mo_type σ) fun (_ : Unit) (σ2 : Mem) =>
  gd (inb (σ2.1 15 1) 48) (
  some (σ2.2 25 (σ2.1 15 1).toNatClampNeg, σ2))
set_option maxHeartbeats 4000000 in
set_option maxRecDepth 100000 in
theorem c_Mo_expected (l : Launch) (g : Gw) (hg : wInj g) {r0 : Int64} {σ σ0 : Mem} (h : f_Mo_expected σ = some (r0, σ0)) : KL l yMo_expected cMo_expected 1 (some .long) 5 g [.ref (ad g 15)] σ r0 σ0 := by
  refine q_met g hg (own := "TermBenchModel") rfl rfl (Nat.le_of_ble_eq_true rfl) (fun p e s m args below meth c R Q cx hRk hr hQ H locs ls hP hS hl => ?_)
  have hx := cx.1
  have hb := cx.2.1
  have hown := cx.2.2.2.1
  have hts := cx.2.2.2.2.1
  have hl : lv_has ls 1 [(0, .ref (ad g 15))] := hl
  unfold f_Mo_expected at h
  refine lv_aload_n hx hb dMo_expected_0 rfl (lv_at hl 0 rfl) ?_
  obtain ⟨rh1, σ2, h1, h⟩ := bn_some h
  refine q_cVv (rest := []) (As := []) cx hP hS hRk (c_Mo_type l g hg h1) Y_Mo_type V_Mo_type t_818 (by decide) (by decide) (e_15 g _ _) rfl rfl hl.1 rfl (Nat.le_of_ble_eq_true rfl) dMo_expected_1 (fun H locs hP hS => ?_)
  refine lv_aload_n hx hb dMo_expected_4 rfl (lv_at hl 0 rfl) ?_
  refine g_Mo_wanted cx hP  t_544 dMo_expected_5 ?_
  refine lv_aload_n hx hb dMo_expected_8 rfl (lv_at hl 0 rfl) ?_
  refine g_Mo_cursor cx hP  t_531 dMo_expected_9 ?_
  obtain ⟨b3, h⟩ := gd_some h
  refine q_lald cx hP (by decide) (e_25 g) b3 dMo_expected_12 ?_
  exact q_rl cx hr hP hS hQ h dMo_expected_13
theorem dMo_marks_0 : decode cMo_marks 0 = .ok (.aload_n 0, 1) := by decide +kernel
theorem dMo_marks_1 : decode cMo_marks 1 = .ok (.invokevirtual 240, 3) := by decide +kernel
theorem dMo_marks_4 : decode cMo_marks 4 = .ok (.iconst 0, 1) := by decide +kernel
theorem dMo_marks_5 : decode cMo_marks 5 = .ok (.istore_n 1, 1) := by decide +kernel
theorem dMo_marks_6 : decode cMo_marks 6 = .ok (.iconst 0, 1) := by decide +kernel
theorem dMo_marks_7 : decode cMo_marks 7 = .ok (.istore_n 2, 1) := by decide +kernel
theorem dMo_marks_8 : decode cMo_marks 8 = .ok (.iload_n 2, 1) := by decide +kernel
theorem dMo_marks_9 : decode cMo_marks 9 = .ok (.aload_n 0, 1) := by decide +kernel
theorem dMo_marks_10 : decode cMo_marks 10 = .ok (.getfield 7, 3) := by decide +kernel
theorem dMo_marks_13 : decode cMo_marks 13 = .ok (.if_icmp .ge 26, 3) := by decide +kernel
theorem dMo_marks_16 : decode cMo_marks 16 = .ok (.iload_n 1, 1) := by decide +kernel
theorem dMo_marks_17 : decode cMo_marks 17 = .ok (.aload_n 0, 1) := by decide +kernel
theorem dMo_marks_18 : decode cMo_marks 18 = .ok (.getfield 45, 3) := by decide +kernel
theorem dMo_marks_21 : decode cMo_marks 21 = .ok (.iload_n 2, 1) := by decide +kernel
theorem dMo_marks_22 : decode cMo_marks 22 = .ok (.iaload, 1) := by decide +kernel
theorem dMo_marks_23 : decode cMo_marks 23 = .ok (.ifCond .ne 7, 3) := by decide +kernel
theorem dMo_marks_26 : decode cMo_marks 26 = .ok (.iconst 0, 1) := by decide +kernel
theorem dMo_marks_27 : decode cMo_marks 27 = .ok (.goto 4, 3) := by decide +kernel
theorem dMo_marks_30 : decode cMo_marks 30 = .ok (.iconst 1, 1) := by decide +kernel
theorem dMo_marks_31 : decode cMo_marks 31 = .ok (.iadd, 1) := by decide +kernel
theorem dMo_marks_32 : decode cMo_marks 32 = .ok (.istore_n 1, 1) := by decide +kernel
theorem dMo_marks_33 : decode cMo_marks 33 = .ok (.iinc 2 1, 3) := by decide +kernel
theorem dMo_marks_36 : decode cMo_marks 36 = .ok (.goto (-28), 3) := by decide +kernel
theorem dMo_marks_39 : decode cMo_marks 39 = .ok (.iload_n 1, 1) := by decide +kernel
theorem dMo_marks_40 : decode cMo_marks 40 = .ok (.ireturn, 1) := by decide +kernel
def f_Mo_marks_J31  (v1 : Int32) (v2 : Int32) (u0 : Int32) (u1 : Int32) (σ : Mem) : Option ((Int32 × Int32 × Mem) ⊕ (Int32 × Mem)) :=
  lt_ (u0 + u1) fun (x1 : Int32) =>
  lt_ (v2 + 1) fun (x2 : Int32) =>
  some (.inl (x1, x2, σ))
def f_Mo_marks_L8   (v1 : Int32) (v2 : Int32) (σ : Mem) : Option ((Int32 × Int32 × Mem) ⊕ (Int32 × Mem)) :=
  if (σ.1 15 0) ≤ v2 then (
  inrM (some (v1, σ)))
  else (
  gd (inb v2 48) (
  if (σ.1 26 v2.toNatClampNeg) = 0 then (
  f_Mo_marks_J31 v1 v2 v1 (0 : Int32) σ)
  else (
  f_Mo_marks_J31 v1 v2 v1 (1 : Int32) σ)))
def f_Mo_marks   (σ : Mem) : Option (Int32 × Mem) :=
  bn (f_Mo_type σ) fun (_ : Unit) (σ6 : Mem) =>
  lt_ (0 : Int32) fun (x7 : Int32) =>
  lt_ (0 : Int32) fun (x8 : Int32) =>
  loopF (fun (q : (Int32 × Int32 × Mem)) => f_Mo_marks_L8 q.1 q.2.1 q.2.2) FU (x7, x8, σ6)
set_option maxHeartbeats 4000000 in
set_option maxRecDepth 100000 in
theorem c_Mo_marks (l : Launch) (g : Gw) (hg : wInj g) {r0 : Int32} {σ σ0 : Mem} (h : f_Mo_marks σ = some (r0, σ0)) : KI l yMo_marks cMo_marks 3 (some .int) 5 g [.ref (ad g 15)] σ r0 σ0 := by
  refine q_met g hg (own := "TermBenchModel") rfl rfl (Nat.le_of_ble_eq_true rfl) (fun p e s m args below meth c R Q cx hRk hr hQ H locs ls hP hS hl => ?_)
  have hx := cx.1
  have hb := cx.2.1
  have hown := cx.2.2.2.1
  have hts := cx.2.2.2.2.1
  have hl : lv_has ls 3 [(0, .ref (ad g 15))] := hl
  unfold f_Mo_marks at h
  refine lv_aload_n hx hb dMo_marks_0 rfl (lv_at hl 0 rfl) ?_
  obtain ⟨rh5, σ6, h5, h⟩ := bn_some h
  refine q_cVv (rest := []) (As := []) cx hP hS hRk (c_Mo_type l g hg h5) Y_Mo_type V_Mo_type t_818 (by decide) (by decide) (e_15 g _ _) rfl rfl hl.1 rfl (Nat.le_of_ble_eq_true rfl) dMo_marks_1 (fun H locs hP hS => ?_)
  refine lv_iconst (v := 0) hx hb dMo_marks_4 (by decide) ?_
  obtain ⟨x7, ex7, h⟩ := lt_some h
  refine q_nmi ex7 ?_
  refine lv_istore_n (lv' := [(1, .int x7), (0, .ref (ad g 15))]) hx hb dMo_marks_5 rfl hl (Nat.le_of_ble_eq_true rfl) rfl (fun ls hl => ?_)
  refine lv_iconst (v := 0) hx hb dMo_marks_6 (by decide) ?_
  obtain ⟨x8, ex8, h⟩ := lt_some h
  refine q_nmi ex8 ?_
  refine lv_istore_n (lv' := [(2, .int x8), (1, .int x7), (0, .ref (ad g 15))]) hx hb dMo_marks_7 rfl hl (Nat.le_of_ble_eq_true rfl) rfl (fun ls hl => ?_)
  have L8 : ∀ (n : Nat) (v1 : Int32) (v2 : Int32) (σ : Mem), loopF (fun (q : (Int32 × Int32 × Mem)) => f_Mo_marks_L8 q.1 q.2.1 q.2.2) n (v1, v2, σ) = some (r0, σ0) → ∀ (H : Heap) (locs : List Loc) (ls : Array Slot), lv_has ls 3 [(0, .ref (ad g 15)), (1, .int v1), (2, .int v2)] → Wd g σ H → va_S (wA g) s.heap H locs → W p l e R s m args below meth c H locs 0 0 Q (F0 m 8 ls []) := by
    intro n
    induction n with
    | zero => intro v1 v2 σ h; exact (loopF_zero h).elim
    | succ n ih8 =>
      intro v1 v2 σ h H locs ls hl hP hS
      obtain ⟨o8, h, K8, E8⟩ := loopF_succ h
      have h : f_Mo_marks_L8 v1 v2 σ = some o8 := h
      have J31 : ∀ (v1 : Int32) (v2 : Int32) (u0 : Int32) (u1 : Int32) (σ : Mem), f_Mo_marks_J31 v1 v2 u0 u1 σ = some o8 → ∀ (H : Heap) (locs : List Loc) (ls : Array Slot), lv_has ls 3 [(0, .ref (ad g 15)), (1, .int v1), (2, .int v2)] → Wd g σ H → va_S (wA g) s.heap H locs → W p l e R s m args below meth c H locs 0 0 Q (F0 m 31 ls [.int u1, .int u0]) := by
        intro v1 v2 u0 u1 σ h H locs ls hl hP hS
        unfold f_Mo_marks_J31 at h
        refine lv_iadd hx hb dMo_marks_31 ?_
        obtain ⟨x1, ex1, h⟩ := lt_some h
        refine q_nmi ex1 ?_
        refine lv_istore_n (lv' := [(1, .int x1), (0, .ref (ad g 15)), (2, .int v2)]) hx hb dMo_marks_32 rfl hl (Nat.le_of_ble_eq_true rfl) rfl (fun ls hl => ?_)
        obtain ⟨x2, ex2, h⟩ := lt_some h
        refine lv_iinc (lv' := [(2, .int x2), (1, .int x1), (0, .ref (ad g 15))]) hx hb dMo_marks_33 hl (k := 2) rfl (q_inc ex2 (by decide)) (Nat.le_of_ble_eq_true rfl) rfl (fun ls hl => ?_)
        refine lv_goto (tgt := 8) hx hb dMo_marks_36 (by decide) ?_
        exact ih8 _ _ _ (K8 _ (Option.some.inj h).symm) _ _ _ (lv_sub hl [2, 1, 0] rfl) hP hS
      unfold f_Mo_marks_L8 at h
      refine lv_iload_n hx hb dMo_marks_8 rfl (lv_at hl 2 rfl) ?_
      refine lv_aload_n hx hb dMo_marks_9 rfl (lv_at hl 0 rfl) ?_
      refine g_Mo_count cx hP  t_530 dMo_marks_10 ?_
      refine lv_icmp_ge (tgt := 39) hx hb dMo_marks_13 (by decide) (fun hc => ?_) (fun hc => ?_)
      · replace h := if_t h hc
        obtain ⟨z3, h, ez3⟩ := inrM_some h
        rw [E8 z3 ez3] at h
        refine lv_iload_n hx hb dMo_marks_39 rfl (lv_at hl 1 rfl) ?_
        exact q_ri cx hr rfl hP hS hQ h dMo_marks_40
      · replace h := if_f h hc
        refine lv_iload_n hx hb dMo_marks_16 rfl (lv_at hl 1 rfl) ?_
        refine lv_aload_n hx hb dMo_marks_17 rfl (lv_at hl 0 rfl) ?_
        refine g_Mo_marked cx hP  t_545 dMo_marks_18 ?_
        refine lv_iload_n hx hb dMo_marks_21 rfl (lv_at hl 2 rfl) ?_
        obtain ⟨b4, h⟩ := gd_some h
        refine q_iald cx hP (by decide) (e_26 g) b4 dMo_marks_22 ?_
        refine lv_if_ne (tgt := 30) hx hb dMo_marks_23 (by decide) (fun hc => ?_) (fun hc => ?_)
        · replace h := if_f h hc
          refine lv_iconst (v := 1) hx hb dMo_marks_30 (by decide) ?_
          exact J31 _ _ _ _ _ h _ _ _ (lv_sub hl [0, 1, 2] rfl) hP hS
        · replace h := if_t h hc
          refine lv_iconst (v := 0) hx hb dMo_marks_26 (by decide) ?_
          refine lv_goto (tgt := 31) hx hb dMo_marks_27 (by decide) ?_
          exact J31 _ _ _ _ _ h _ _ _ (lv_sub hl [0, 1, 2] rfl) hP hS
  exact L8 _ _ _ _ h _ _ _ (lv_sub hl [2, 1, 0] rfl) hP hS
theorem dMo_terms_0 : decode cMo_terms 0 = .ok (.aload_n 0, 1) := by decide +kernel
theorem dMo_terms_1 : decode cMo_terms 1 = .ok (.getfield 7, 3) := by decide +kernel
theorem dMo_terms_4 : decode cMo_terms 4 = .ok (.ireturn, 1) := by decide +kernel
def f_Mo_terms   (σ : Mem) : Option (Int32 × Mem) :=
  some (σ.1 15 0, σ)
set_option maxHeartbeats 4000000 in
set_option maxRecDepth 100000 in
theorem c_Mo_terms (l : Launch) (g : Gw) (hg : wInj g) {r0 : Int32} {σ σ0 : Mem} (h : f_Mo_terms σ = some (r0, σ0)) : KI l yMo_terms cMo_terms 1 (some .int) 0 g [.ref (ad g 15)] σ r0 σ0 := by
  refine q_met g hg (own := "TermBenchModel") rfl rfl (Nat.le_of_ble_eq_true rfl) (fun p e s m args below meth c R Q cx hRk hr hQ H locs ls hP hS hl => ?_)
  have hx := cx.1
  have hb := cx.2.1
  have hown := cx.2.2.2.1
  have hts := cx.2.2.2.2.1
  have hl : lv_has ls 1 [(0, .ref (ad g 15))] := hl
  unfold f_Mo_terms at h
  refine lv_aload_n hx hb dMo_terms_0 rfl (lv_at hl 0 rfl) ?_
  refine g_Mo_count cx hP  t_530 dMo_terms_1 ?_
  exact q_ri cx hr rfl hP hS hQ h dMo_terms_4
theorem dMo_enter_0 : decode cMo_enter 0 = .ok (.aload_n 0, 1) := by decide +kernel
theorem dMo_enter_1 : decode cMo_enter 1 = .ok (.getfield 243, 3) := by decide +kernel
theorem dMo_enter_4 : decode cMo_enter 4 = .ok (.bipush 60, 2) := by decide +kernel
theorem dMo_enter_6 : decode cMo_enter 6 = .ok (.if_icmp .eq 13, 3) := by decide +kernel
theorem dMo_enter_9 : decode cMo_enter 9 = .ok (.aload_n 0, 1) := by decide +kernel
theorem dMo_enter_10 : decode cMo_enter 10 = .ok (.getfield 246, 3) := by decide +kernel
theorem dMo_enter_13 : decode cMo_enter 13 = .ok (.sipush 400, 3) := by decide +kernel
theorem dMo_enter_16 : decode cMo_enter 16 = .ok (.if_icmp .ne 5, 3) := by decide +kernel
theorem dMo_enter_19 : decode cMo_enter 19 = .ok (.iconst 0, 1) := by decide +kernel
theorem dMo_enter_20 : decode cMo_enter 20 = .ok (.ireturn, 1) := by decide +kernel
theorem dMo_enter_21 : decode cMo_enter 21 = .ok (.aload_n 0, 1) := by decide +kernel
theorem dMo_enter_22 : decode cMo_enter 22 = .ok (.dup, 1) := by decide +kernel
theorem dMo_enter_23 : decode cMo_enter 23 = .ok (.getfield 246, 3) := by decide +kernel
theorem dMo_enter_26 : decode cMo_enter 26 = .ok (.iconst 1, 1) := by decide +kernel
theorem dMo_enter_27 : decode cMo_enter 27 = .ok (.iadd, 1) := by decide +kernel
theorem dMo_enter_28 : decode cMo_enter 28 = .ok (.putfield 246, 3) := by decide +kernel
theorem dMo_enter_31 : decode cMo_enter 31 = .ok (.aload_n 0, 1) := by decide +kernel
theorem dMo_enter_32 : decode cMo_enter 32 = .ok (.getfield 66, 3) := by decide +kernel
theorem dMo_enter_35 : decode cMo_enter 35 = .ok (.aload_n 0, 1) := by decide +kernel
theorem dMo_enter_36 : decode cMo_enter 36 = .ok (.getfield 243, 3) := by decide +kernel
theorem dMo_enter_39 : decode cMo_enter 39 = .ok (.iload_n 1, 1) := by decide +kernel
theorem dMo_enter_40 : decode cMo_enter 40 = .ok (.iastore, 1) := by decide +kernel
theorem dMo_enter_41 : decode cMo_enter 41 = .ok (.aload_n 0, 1) := by decide +kernel
theorem dMo_enter_42 : decode cMo_enter 42 = .ok (.getfield 69, 3) := by decide +kernel
theorem dMo_enter_45 : decode cMo_enter 45 = .ok (.aload_n 0, 1) := by decide +kernel
theorem dMo_enter_46 : decode cMo_enter 46 = .ok (.getfield 243, 3) := by decide +kernel
theorem dMo_enter_49 : decode cMo_enter 49 = .ok (.iconst 0, 1) := by decide +kernel
theorem dMo_enter_50 : decode cMo_enter 50 = .ok (.iastore, 1) := by decide +kernel
theorem dMo_enter_51 : decode cMo_enter 51 = .ok (.aload_n 0, 1) := by decide +kernel
theorem dMo_enter_52 : decode cMo_enter 52 = .ok (.getfield 72, 3) := by decide +kernel
theorem dMo_enter_55 : decode cMo_enter 55 = .ok (.aload_n 0, 1) := by decide +kernel
theorem dMo_enter_56 : decode cMo_enter 56 = .ok (.getfield 243, 3) := by decide +kernel
theorem dMo_enter_59 : decode cMo_enter 59 = .ok (.iload_n 2, 1) := by decide +kernel
theorem dMo_enter_60 : decode cMo_enter 60 = .ok (.iastore, 1) := by decide +kernel
theorem dMo_enter_61 : decode cMo_enter 61 = .ok (.aload_n 0, 1) := by decide +kernel
theorem dMo_enter_62 : decode cMo_enter 62 = .ok (.dup, 1) := by decide +kernel
theorem dMo_enter_63 : decode cMo_enter 63 = .ok (.getfield 243, 3) := by decide +kernel
theorem dMo_enter_66 : decode cMo_enter 66 = .ok (.iconst 1, 1) := by decide +kernel
theorem dMo_enter_67 : decode cMo_enter 67 = .ok (.iadd, 1) := by decide +kernel
theorem dMo_enter_68 : decode cMo_enter 68 = .ok (.putfield 243, 3) := by decide +kernel
theorem dMo_enter_71 : decode cMo_enter 71 = .ok (.iconst 1, 1) := by decide +kernel
theorem dMo_enter_72 : decode cMo_enter 72 = .ok (.ireturn, 1) := by decide +kernel
def f_Mo_enter_J19  (v1 : Int32) (v2 : Int32) (σ : Mem) : Option (Int32 × Mem) :=
  some ((0 : Int32), σ)
def f_Mo_enter  (v1 : Int32) (v2 : Int32) (σ : Mem) : Option (Int32 × Mem) :=
  if (σ.1 15 26) = (60 : Int32) then (
  f_Mo_enter_J19 v1 v2 σ)
  else (
  if (σ.1 15 24) = (400 : Int32) then (
  f_Mo_enter_J19 v1 v2 σ)
  else (
  lt_ (sI σ 15 24 ((σ.1 15 24) + (1 : Int32))) fun (σ1 : Mem) =>
  gd (inb (σ1.1 15 26) 61) (lt_ (sI σ1 33 (σ1.1 15 26).toNatClampNeg v1) fun (σ3 : Mem) =>
  gd (inb (σ3.1 15 26) 61) (lt_ (sI σ3 34 (σ3.1 15 26).toNatClampNeg (0 : Int32)) fun (σ5 : Mem) =>
  gd (inb (σ5.1 15 26) 61) (lt_ (sI σ5 35 (σ5.1 15 26).toNatClampNeg v2) fun (σ7 : Mem) =>
  lt_ (sI σ7 15 26 ((σ7.1 15 26) + (1 : Int32))) fun (σ8 : Mem) =>
  some ((1 : Int32), σ8))))))
set_option maxHeartbeats 4000000 in
set_option maxRecDepth 100000 in
theorem c_Mo_enter (l : Launch) (g : Gw) (hg : wInj g) {v1 : Int32} {v2 : Int32} {r0 : Int32} {σ σ0 : Mem} (h : f_Mo_enter v1 v2 σ = some (r0, σ0)) : KI l yMo_enter cMo_enter 3 (some .boolean) 0 g [.ref (ad g 15), .int v1, .int v2] σ r0 σ0 := by
  refine q_met g hg (own := "TermBenchModel") rfl rfl (Nat.le_of_ble_eq_true rfl) (fun p e s m args below meth c R Q cx hRk hr hQ H locs ls hP hS hl => ?_)
  have hx := cx.1
  have hb := cx.2.1
  have hown := cx.2.2.2.1
  have hts := cx.2.2.2.2.1
  have hl : lv_has ls 3 [(0, .ref (ad g 15)), (1, .int v1), (2, .int v2)] := hl
  have J19 : ∀ (v1 : Int32) (v2 : Int32) (σ : Mem), f_Mo_enter_J19 v1 v2 σ = some (r0, σ0) → ∀ (H : Heap) (locs : List Loc) (ls : Array Slot), lv_has ls 3 [(0, .ref (ad g 15)), (1, .int v1), (2, .int v2)] → Wd g σ H → va_S (wA g) s.heap H locs → W p l e R s m args below meth c H locs 0 0 Q (F0 m 19 ls []) := by
    intro v1 v2 σ h H locs ls hl hP hS
    unfold f_Mo_enter_J19 at h
    refine lv_iconst (v := 0) hx hb dMo_enter_19 (by decide) ?_
    exact q_ri cx hr rfl hP hS hQ h dMo_enter_20
  unfold f_Mo_enter at h
  refine lv_aload_n hx hb dMo_enter_0 rfl (lv_at hl 0 rfl) ?_
  refine g_Mo_running cx hP  t_556 dMo_enter_1 ?_
  refine lv_bipush (v := 60) hx hb dMo_enter_4 (by decide) ?_
  refine lv_icmp_eq (tgt := 19) hx hb dMo_enter_6 (by decide) (fun hc => ?_) (fun hc => ?_)
  · replace h := if_t h hc
    exact J19 _ _ _ h _ _ _ (lv_sub hl [0, 1, 2] rfl) hP hS
  · replace h := if_f h hc
    refine lv_aload_n hx hb dMo_enter_9 rfl (lv_at hl 0 rfl) ?_
    refine g_Mo_units cx hP  t_554 dMo_enter_10 ?_
    refine lv_sipush (v := 400) hx hb dMo_enter_13 (by decide) ?_
    refine lv_icmp_ne (tgt := 21) hx hb dMo_enter_16 (by decide) (fun hc => ?_) (fun hc => ?_)
    · replace h := if_f h hc
      refine lv_aload_n hx hb dMo_enter_21 rfl (lv_at hl 0 rfl) ?_
      refine lv_dup hx hb dMo_enter_22 rfl ?_
      refine g_Mo_units cx hP  t_554 dMo_enter_23 ?_
      refine lv_iconst (v := 1) hx hb dMo_enter_26 (by decide) ?_
      refine lv_iadd hx hb dMo_enter_27 ?_
      obtain ⟨σ1, eσ1, h⟩ := lt_some h
      refine p_Mo_units cx hP hS t_554 dMo_enter_28 eσ1 (fun H locs hP hS => ?_)
      refine lv_aload_n hx hb dMo_enter_31 rfl (lv_at hl 0 rfl) ?_
      refine g_Mo_term cx hP  t_557 dMo_enter_32 ?_
      refine lv_aload_n hx hb dMo_enter_35 rfl (lv_at hl 0 rfl) ?_
      refine g_Mo_running cx hP  t_556 dMo_enter_36 ?_
      refine lv_iload_n hx hb dMo_enter_39 rfl (lv_at hl 1 rfl) ?_
      obtain ⟨b2, h⟩ := gd_some h
      obtain ⟨σ3, eσ3, h⟩ := lt_some h
      refine q_iast cx hP hS (by decide) (e_33 g) b2 dMo_enter_40 eσ3 (fun H locs hP hS => ?_)
      refine lv_aload_n hx hb dMo_enter_41 rfl (lv_at hl 0 rfl) ?_
      refine g_Mo_stage cx hP  t_558 dMo_enter_42 ?_
      refine lv_aload_n hx hb dMo_enter_45 rfl (lv_at hl 0 rfl) ?_
      refine g_Mo_running cx hP  t_556 dMo_enter_46 ?_
      refine lv_iconst (v := 0) hx hb dMo_enter_49 (by decide) ?_
      obtain ⟨b4, h⟩ := gd_some h
      obtain ⟨σ5, eσ5, h⟩ := lt_some h
      refine q_iast cx hP hS (by decide) (e_34 g) b4 dMo_enter_50 eσ5 (fun H locs hP hS => ?_)
      refine lv_aload_n hx hb dMo_enter_51 rfl (lv_at hl 0 rfl) ?_
      refine g_Mo_names cx hP  t_559 dMo_enter_52 ?_
      refine lv_aload_n hx hb dMo_enter_55 rfl (lv_at hl 0 rfl) ?_
      refine g_Mo_running cx hP  t_556 dMo_enter_56 ?_
      refine lv_iload_n hx hb dMo_enter_59 rfl (lv_at hl 2 rfl) ?_
      obtain ⟨b6, h⟩ := gd_some h
      obtain ⟨σ7, eσ7, h⟩ := lt_some h
      refine q_iast cx hP hS (by decide) (e_35 g) b6 dMo_enter_60 eσ7 (fun H locs hP hS => ?_)
      refine lv_aload_n hx hb dMo_enter_61 rfl (lv_at hl 0 rfl) ?_
      refine lv_dup hx hb dMo_enter_62 rfl ?_
      refine g_Mo_running cx hP  t_556 dMo_enter_63 ?_
      refine lv_iconst (v := 1) hx hb dMo_enter_66 (by decide) ?_
      refine lv_iadd hx hb dMo_enter_67 ?_
      obtain ⟨σ8, eσ8, h⟩ := lt_some h
      refine p_Mo_running cx hP hS t_556 dMo_enter_68 eσ8 (fun H locs hP hS => ?_)
      refine lv_iconst (v := 1) hx hb dMo_enter_71 (by decide) ?_
      exact q_ri cx hr rfl hP hS hQ h dMo_enter_72
    · replace h := if_t h hc
      exact J19 _ _ _ h _ _ _ (lv_sub hl [0, 1, 2] rfl) hP hS
theorem dMo_value_0 : decode cMo_value 0 = .ok (.aload_n 0, 1) := by decide +kernel
theorem dMo_value_1 : decode cMo_value 1 = .ok (.iload_n 1, 1) := by decide +kernel
theorem dMo_value_2 : decode cMo_value 2 = .ok (.putfield 249, 3) := by decide +kernel
theorem dMo_value_5 : decode cMo_value 5 = .ok (.aload_n 0, 1) := by decide +kernel
theorem dMo_value_6 : decode cMo_value 6 = .ok (.iload_n 2, 1) := by decide +kernel
theorem dMo_value_7 : decode cMo_value 7 = .ok (.putfield 252, 3) := by decide +kernel
theorem dMo_value_10 : decode cMo_value 10 = .ok (.aload_n 0, 1) := by decide +kernel
theorem dMo_value_11 : decode cMo_value 11 = .ok (.iload_n 3, 1) := by decide +kernel
theorem dMo_value_12 : decode cMo_value 12 = .ok (.putfield 255, 3) := by decide +kernel
theorem dMo_value_15 : decode cMo_value 15 = .ok (.return_, 1) := by decide +kernel
def f_Mo_value  (v1 : Int32) (v2 : Int32) (v3 : Int32) (σ : Mem) : Option (Unit × Mem) :=
  lt_ (sI σ 15 33 v1) fun (σ1 : Mem) =>
  lt_ (sI σ1 15 34 v2) fun (σ2 : Mem) =>
  lt_ (sI σ2 15 35 v3) fun (σ3 : Mem) =>
  some ((), σ3)
set_option maxHeartbeats 4000000 in
set_option maxRecDepth 100000 in
theorem c_Mo_value (l : Launch) (g : Gw) (hg : wInj g) {v1 : Int32} {v2 : Int32} {v3 : Int32} {σ σ0 : Mem} (h : f_Mo_value v1 v2 v3 σ = some ((), σ0)) : KV l yMo_value cMo_value 4 none 0 g [.ref (ad g 15), .int v1, .int v2, .int v3] σ σ0 := by
  refine q_met g hg (own := "TermBenchModel") rfl rfl (Nat.le_of_ble_eq_true rfl) (fun p e s m args below meth c R Q cx hRk hr hQ H locs ls hP hS hl => ?_)
  have hx := cx.1
  have hb := cx.2.1
  have hown := cx.2.2.2.1
  have hts := cx.2.2.2.2.1
  have hl : lv_has ls 4 [(0, .ref (ad g 15)), (1, .int v1), (2, .int v2), (3, .int v3)] := hl
  unfold f_Mo_value at h
  refine lv_aload_n hx hb dMo_value_0 rfl (lv_at hl 0 rfl) ?_
  refine lv_iload_n hx hb dMo_value_1 rfl (lv_at hl 1 rfl) ?_
  obtain ⟨σ1, eσ1, h⟩ := lt_some h
  refine p_Mo_sort cx hP hS t_563 dMo_value_2 eσ1 (fun H locs hP hS => ?_)
  refine lv_aload_n hx hb dMo_value_5 rfl (lv_at hl 0 rfl) ?_
  refine lv_iload_n hx hb dMo_value_6 rfl (lv_at hl 2 rfl) ?_
  obtain ⟨σ2, eσ2, h⟩ := lt_some h
  refine p_Mo_worth cx hP hS t_564 dMo_value_7 eσ2 (fun H locs hP hS => ?_)
  refine lv_aload_n hx hb dMo_value_10 rfl (lv_at hl 0 rfl) ?_
  refine lv_iload_n hx hb dMo_value_11 rfl (lv_at hl 3 rfl) ?_
  obtain ⟨σ3, eσ3, h⟩ := lt_some h
  refine p_Mo_around cx hP hS t_565 dMo_value_12 eσ3 (fun H locs hP hS => ?_)
  exact q_rv cx hr hP hS hQ h dMo_value_15
theorem dMo_lookUp_0 : decode cMo_lookUp 0 = .ok (.iload_n 2, 1) := by decide +kernel
theorem dMo_lookUp_1 : decode cMo_lookUp 1 = .ok (.istore_n 3, 1) := by decide +kernel
theorem dMo_lookUp_2 : decode cMo_lookUp 2 = .ok (.iload_n 3, 1) := by decide +kernel
theorem dMo_lookUp_3 : decode cMo_lookUp 3 = .ok (.ifCond .le 23, 3) := by decide +kernel
theorem dMo_lookUp_6 : decode cMo_lookUp 6 = .ok (.aload_n 0, 1) := by decide +kernel
theorem dMo_lookUp_7 : decode cMo_lookUp 7 = .ok (.getfield 84, 3) := by decide +kernel
theorem dMo_lookUp_10 : decode cMo_lookUp 10 = .ok (.iload_n 3, 1) := by decide +kernel
theorem dMo_lookUp_11 : decode cMo_lookUp 11 = .ok (.iaload, 1) := by decide +kernel
theorem dMo_lookUp_12 : decode cMo_lookUp 12 = .ok (.iload_n 1, 1) := by decide +kernel
theorem dMo_lookUp_13 : decode cMo_lookUp 13 = .ok (.if_icmp .eq 13, 3) := by decide +kernel
theorem dMo_lookUp_16 : decode cMo_lookUp 16 = .ok (.aload_n 0, 1) := by decide +kernel
theorem dMo_lookUp_17 : decode cMo_lookUp 17 = .ok (.getfield 96, 3) := by decide +kernel
theorem dMo_lookUp_20 : decode cMo_lookUp 20 = .ok (.iload_n 3, 1) := by decide +kernel
theorem dMo_lookUp_21 : decode cMo_lookUp 21 = .ok (.iaload, 1) := by decide +kernel
theorem dMo_lookUp_22 : decode cMo_lookUp 22 = .ok (.istore_n 3, 1) := by decide +kernel
theorem dMo_lookUp_23 : decode cMo_lookUp 23 = .ok (.goto (-21), 3) := by decide +kernel
theorem dMo_lookUp_26 : decode cMo_lookUp 26 = .ok (.iload_n 3, 1) := by decide +kernel
theorem dMo_lookUp_27 : decode cMo_lookUp 27 = .ok (.ifCond .ne 13, 3) := by decide +kernel
theorem dMo_lookUp_30 : decode cMo_lookUp 30 = .ok (.aload_n 0, 1) := by decide +kernel
theorem dMo_lookUp_31 : decode cMo_lookUp 31 = .ok (.iconst 2, 1) := by decide +kernel
theorem dMo_lookUp_32 : decode cMo_lookUp 32 = .ok (.iconst 0, 1) := by decide +kernel
theorem dMo_lookUp_33 : decode cMo_lookUp 33 = .ok (.iconst 0, 1) := by decide +kernel
theorem dMo_lookUp_34 : decode cMo_lookUp 34 = .ok (.invokevirtual 258, 3) := by decide +kernel
theorem dMo_lookUp_37 : decode cMo_lookUp 37 = .ok (.goto 25, 3) := by decide +kernel
theorem dMo_lookUp_40 : decode cMo_lookUp 40 = .ok (.aload_n 0, 1) := by decide +kernel
theorem dMo_lookUp_41 : decode cMo_lookUp 41 = .ok (.aload_n 0, 1) := by decide +kernel
theorem dMo_lookUp_42 : decode cMo_lookUp 42 = .ok (.getfield 87, 3) := by decide +kernel
theorem dMo_lookUp_45 : decode cMo_lookUp 45 = .ok (.iload_n 3, 1) := by decide +kernel
theorem dMo_lookUp_46 : decode cMo_lookUp 46 = .ok (.iaload, 1) := by decide +kernel
theorem dMo_lookUp_47 : decode cMo_lookUp 47 = .ok (.aload_n 0, 1) := by decide +kernel
theorem dMo_lookUp_48 : decode cMo_lookUp 48 = .ok (.getfield 90, 3) := by decide +kernel
theorem dMo_lookUp_51 : decode cMo_lookUp 51 = .ok (.iload_n 3, 1) := by decide +kernel
theorem dMo_lookUp_52 : decode cMo_lookUp 52 = .ok (.iaload, 1) := by decide +kernel
theorem dMo_lookUp_53 : decode cMo_lookUp 53 = .ok (.aload_n 0, 1) := by decide +kernel
theorem dMo_lookUp_54 : decode cMo_lookUp 54 = .ok (.getfield 93, 3) := by decide +kernel
theorem dMo_lookUp_57 : decode cMo_lookUp 57 = .ok (.iload_n 3, 1) := by decide +kernel
theorem dMo_lookUp_58 : decode cMo_lookUp 58 = .ok (.iaload, 1) := by decide +kernel
theorem dMo_lookUp_59 : decode cMo_lookUp 59 = .ok (.invokevirtual 258, 3) := by decide +kernel
theorem dMo_lookUp_62 : decode cMo_lookUp 62 = .ok (.return_, 1) := by decide +kernel
def f_Mo_lookUp_J26  (v1 : Int32) (v2 : Int32) (v3 : Int32) (σ : Mem) : Option (Unit × Mem) :=
  if v3 = 0 then (
  bn (f_Mo_value (2 : Int32) (0 : Int32) (0 : Int32) σ) fun (_ : Unit) (σ7 : Mem) =>
  some ((), σ7))
  else (
  gd (inb v3 402) (
  gd (inb v3 402) (
  gd (inb v3 402) (
  bn (f_Mo_value (σ.1 40 v3.toNatClampNeg) (σ.1 41 v3.toNatClampNeg) (σ.1 42 v3.toNatClampNeg) σ) fun (_ : Unit) (σ5 : Mem) =>
  some ((), σ5)))))
def f_Mo_lookUp_L2  (v1 : Int32) (v2 : Int32) (v3 : Int32) (σ : Mem) : Option ((Int32 × Mem) ⊕ (Unit × Mem)) :=
  if v3 ≤ 0 then (
  inrM (f_Mo_lookUp_J26 v1 v2 v3 σ))
  else (
  gd (inb v3 402) (
  if (σ.1 39 v3.toNatClampNeg) = v1 then (
  inrM (f_Mo_lookUp_J26 v1 v2 v3 σ))
  else (
  gd (inb v3 402) (
  lt_ (σ.1 43 v3.toNatClampNeg) fun (x12 : Int32) =>
  some (.inl (x12, σ))))))
def f_Mo_lookUp  (v1 : Int32) (v2 : Int32) (σ : Mem) : Option (Unit × Mem) :=
  loopF (fun (q : (Int32 × Mem)) => f_Mo_lookUp_L2 v1 v2 q.1 q.2) FU (v2, σ)
set_option maxHeartbeats 4000000 in
set_option maxRecDepth 100000 in
theorem c_Mo_lookUp (l : Launch) (g : Gw) (hg : wInj g) {v1 : Int32} {v2 : Int32} {σ σ0 : Mem} (h : f_Mo_lookUp v1 v2 σ = some ((), σ0)) : KV l yMo_lookUp cMo_lookUp 4 none 1 g [.ref (ad g 15), .int v1, .int v2] σ σ0 := by
  refine q_met g hg (own := "TermBenchModel") rfl rfl (Nat.le_of_ble_eq_true rfl) (fun p e s m args below meth c R Q cx hRk hr hQ H locs ls hP hS hl => ?_)
  have hx := cx.1
  have hb := cx.2.1
  have hown := cx.2.2.2.1
  have hts := cx.2.2.2.2.1
  have hl : lv_has ls 4 [(0, .ref (ad g 15)), (1, .int v1), (2, .int v2)] := hl
  have J26 : ∀ (v1 : Int32) (v2 : Int32) (v3 : Int32) (σ : Mem), f_Mo_lookUp_J26 v1 v2 v3 σ = some ((), σ0) → ∀ (H : Heap) (locs : List Loc) (ls : Array Slot), lv_has ls 4 [(0, .ref (ad g 15)), (1, .int v1), (2, .int v2), (3, .int v3)] → Wd g σ H → va_S (wA g) s.heap H locs → W p l e R s m args below meth c H locs 0 0 Q (F0 m 26 ls []) := by
    intro v1 v2 v3 σ h H locs ls hl hP hS
    unfold f_Mo_lookUp_J26 at h
    refine lv_iload_n hx hb dMo_lookUp_26 rfl (lv_at hl 3 rfl) ?_
    refine lv_if_ne (tgt := 40) hx hb dMo_lookUp_27 (by decide) (fun hc => ?_) (fun hc => ?_)
    · replace h := if_f h hc
      refine lv_aload_n hx hb dMo_lookUp_40 rfl (lv_at hl 0 rfl) ?_
      refine lv_aload_n hx hb dMo_lookUp_41 rfl (lv_at hl 0 rfl) ?_
      refine g_Mo_boundSort cx hP  t_568 dMo_lookUp_42 ?_
      refine lv_iload_n hx hb dMo_lookUp_45 rfl (lv_at hl 3 rfl) ?_
      obtain ⟨b1, h⟩ := gd_some h
      refine q_iald cx hP (by decide) (e_40 g) b1 dMo_lookUp_46 ?_
      refine lv_aload_n hx hb dMo_lookUp_47 rfl (lv_at hl 0 rfl) ?_
      refine g_Mo_boundNumber cx hP  t_569 dMo_lookUp_48 ?_
      refine lv_iload_n hx hb dMo_lookUp_51 rfl (lv_at hl 3 rfl) ?_
      obtain ⟨b2, h⟩ := gd_some h
      refine q_iald cx hP (by decide) (e_41 g) b2 dMo_lookUp_52 ?_
      refine lv_aload_n hx hb dMo_lookUp_53 rfl (lv_at hl 0 rfl) ?_
      refine g_Mo_boundNames cx hP  t_570 dMo_lookUp_54 ?_
      refine lv_iload_n hx hb dMo_lookUp_57 rfl (lv_at hl 3 rfl) ?_
      obtain ⟨b3, h⟩ := gd_some h
      refine q_iald cx hP (by decide) (e_42 g) b3 dMo_lookUp_58 ?_
      obtain ⟨rh4, σ5, h4, h⟩ := bn_some h
      refine q_cVv (rest := []) (As := [.int (σ.1 40 v3.toNatClampNeg), .int (σ.1 41 v3.toNatClampNeg), .int (σ.1 42 v3.toNatClampNeg)]) cx hP hS hRk (c_Mo_value l g hg h4) Y_Mo_value V_Mo_value t_889 (by decide) (by decide) (e_15 g _ _) rfl rfl hl.1 rfl (Nat.le_of_ble_eq_true rfl) dMo_lookUp_59 (fun H locs hP hS => ?_)
      exact q_rv cx hr hP hS hQ h dMo_lookUp_62
    · replace h := if_t h hc
      refine lv_aload_n hx hb dMo_lookUp_30 rfl (lv_at hl 0 rfl) ?_
      refine lv_iconst (v := 2) hx hb dMo_lookUp_31 (by decide) ?_
      refine lv_iconst (v := 0) hx hb dMo_lookUp_32 (by decide) ?_
      refine lv_iconst (v := 0) hx hb dMo_lookUp_33 (by decide) ?_
      obtain ⟨rh6, σ7, h6, h⟩ := bn_some h
      refine q_cVv (rest := []) (As := [.int (2 : Int32), .int (0 : Int32), .int (0 : Int32)]) cx hP hS hRk (c_Mo_value l g hg h6) Y_Mo_value V_Mo_value t_889 (by decide) (by decide) (e_15 g _ _) rfl rfl hl.1 rfl (Nat.le_of_ble_eq_true rfl) dMo_lookUp_34 (fun H locs hP hS => ?_)
      refine lv_goto (tgt := 62) hx hb dMo_lookUp_37 (by decide) ?_
      exact q_rv cx hr hP hS hQ h dMo_lookUp_62
  unfold f_Mo_lookUp at h
  refine lv_iload_n hx hb dMo_lookUp_0 rfl (lv_at hl 2 rfl) ?_
  refine lv_istore_n (lv' := [(3, .int v2), (0, .ref (ad g 15)), (1, .int v1), (2, .int v2)]) hx hb dMo_lookUp_1 rfl hl (Nat.le_of_ble_eq_true rfl) rfl (fun ls hl => ?_)
  have L2 : ∀ (n : Nat) (v1 : Int32) (v2 : Int32) (v3 : Int32) (σ : Mem), loopF (fun (q : (Int32 × Mem)) => f_Mo_lookUp_L2 v1 v2 q.1 q.2) n (v3, σ) = some ((), σ0) → ∀ (H : Heap) (locs : List Loc) (ls : Array Slot), lv_has ls 4 [(0, .ref (ad g 15)), (1, .int v1), (2, .int v2), (3, .int v3)] → Wd g σ H → va_S (wA g) s.heap H locs → W p l e R s m args below meth c H locs 0 0 Q (F0 m 2 ls []) := by
    intro n
    induction n with
    | zero => intro v1 v2 v3 σ h; exact (loopF_zero h).elim
    | succ n ih2 =>
      intro v1 v2 v3 σ h H locs ls hl hP hS
      obtain ⟨o2, h, K2, E2⟩ := loopF_succ h
      have h : f_Mo_lookUp_L2 v1 v2 v3 σ = some o2 := h
      unfold f_Mo_lookUp_L2 at h
      refine lv_iload_n hx hb dMo_lookUp_2 rfl (lv_at hl 3 rfl) ?_
      refine lv_if_le (tgt := 26) hx hb dMo_lookUp_3 (by decide) (fun hc => ?_) (fun hc => ?_)
      · replace h := if_t h hc
        obtain ⟨z8, h, ez8⟩ := inrM_some h
        rw [E2 z8 ez8] at h
        exact J26 _ _ _ _ h _ _ _ (lv_sub hl [0, 1, 2, 3] rfl) hP hS
      · replace h := if_f h hc
        refine lv_aload_n hx hb dMo_lookUp_6 rfl (lv_at hl 0 rfl) ?_
        refine g_Mo_boundName cx hP  t_567 dMo_lookUp_7 ?_
        refine lv_iload_n hx hb dMo_lookUp_10 rfl (lv_at hl 3 rfl) ?_
        obtain ⟨b9, h⟩ := gd_some h
        refine q_iald cx hP (by decide) (e_39 g) b9 dMo_lookUp_11 ?_
        refine lv_iload_n hx hb dMo_lookUp_12 rfl (lv_at hl 1 rfl) ?_
        refine lv_icmp_eq (tgt := 26) hx hb dMo_lookUp_13 (by decide) (fun hc => ?_) (fun hc => ?_)
        · replace h := if_t h hc
          obtain ⟨z10, h, ez10⟩ := inrM_some h
          rw [E2 z10 ez10] at h
          exact J26 _ _ _ _ h _ _ _ (lv_sub hl [0, 1, 2, 3] rfl) hP hS
        · replace h := if_f h hc
          refine lv_aload_n hx hb dMo_lookUp_16 rfl (lv_at hl 0 rfl) ?_
          refine g_Mo_before cx hP  t_571 dMo_lookUp_17 ?_
          refine lv_iload_n hx hb dMo_lookUp_20 rfl (lv_at hl 3 rfl) ?_
          obtain ⟨b11, h⟩ := gd_some h
          refine q_iald cx hP (by decide) (e_43 g) b11 dMo_lookUp_21 ?_
          obtain ⟨x12, ex12, h⟩ := lt_some h
          refine q_nmi ex12 ?_
          refine lv_istore_n (lv' := [(3, .int x12), (0, .ref (ad g 15)), (1, .int v1), (2, .int v2)]) hx hb dMo_lookUp_22 rfl hl (Nat.le_of_ble_eq_true rfl) rfl (fun ls hl => ?_)
          refine lv_goto (tgt := 2) hx hb dMo_lookUp_23 (by decide) ?_
          exact ih2 _ _ _ _ (K2 _ (Option.some.inj h).symm) _ _ _ (lv_sub hl [1, 2, 3, 0] rfl) hP hS
  exact L2 _ _ _ _ _ h _ _ _ (lv_sub hl [1, 2, 3, 0] rfl) hP hS
theorem dMo_bind_0 : decode cMo_bind 0 = .ok (.aload_n 0, 1) := by decide +kernel
theorem dMo_bind_1 : decode cMo_bind 1 = .ok (.dup, 1) := by decide +kernel
theorem dMo_bind_2 : decode cMo_bind 2 = .ok (.getfield 262, 3) := by decide +kernel
theorem dMo_bind_5 : decode cMo_bind 5 = .ok (.iconst 1, 1) := by decide +kernel
theorem dMo_bind_6 : decode cMo_bind 6 = .ok (.iadd, 1) := by decide +kernel
theorem dMo_bind_7 : decode cMo_bind 7 = .ok (.putfield 262, 3) := by decide +kernel
theorem dMo_bind_10 : decode cMo_bind 10 = .ok (.aload_n 0, 1) := by decide +kernel
theorem dMo_bind_11 : decode cMo_bind 11 = .ok (.getfield 84, 3) := by decide +kernel
theorem dMo_bind_14 : decode cMo_bind 14 = .ok (.aload_n 0, 1) := by decide +kernel
theorem dMo_bind_15 : decode cMo_bind 15 = .ok (.getfield 262, 3) := by decide +kernel
theorem dMo_bind_18 : decode cMo_bind 18 = .ok (.aload_n 0, 1) := by decide +kernel
theorem dMo_bind_19 : decode cMo_bind 19 = .ok (.getfield 17, 3) := by decide +kernel
theorem dMo_bind_22 : decode cMo_bind 22 = .ok (.aload_n 0, 1) := by decide +kernel
theorem dMo_bind_23 : decode cMo_bind 23 = .ok (.getfield 78, 3) := by decide +kernel
theorem dMo_bind_26 : decode cMo_bind 26 = .ok (.iload_n 1, 1) := by decide +kernel
theorem dMo_bind_27 : decode cMo_bind 27 = .ok (.iaload, 1) := by decide +kernel
theorem dMo_bind_28 : decode cMo_bind 28 = .ok (.iaload, 1) := by decide +kernel
theorem dMo_bind_29 : decode cMo_bind 29 = .ok (.iastore, 1) := by decide +kernel
theorem dMo_bind_30 : decode cMo_bind 30 = .ok (.aload_n 0, 1) := by decide +kernel
theorem dMo_bind_31 : decode cMo_bind 31 = .ok (.getfield 87, 3) := by decide +kernel
theorem dMo_bind_34 : decode cMo_bind 34 = .ok (.aload_n 0, 1) := by decide +kernel
theorem dMo_bind_35 : decode cMo_bind 35 = .ok (.getfield 262, 3) := by decide +kernel
theorem dMo_bind_38 : decode cMo_bind 38 = .ok (.aload_n 0, 1) := by decide +kernel
theorem dMo_bind_39 : decode cMo_bind 39 = .ok (.getfield 249, 3) := by decide +kernel
theorem dMo_bind_42 : decode cMo_bind 42 = .ok (.iastore, 1) := by decide +kernel
theorem dMo_bind_43 : decode cMo_bind 43 = .ok (.aload_n 0, 1) := by decide +kernel
theorem dMo_bind_44 : decode cMo_bind 44 = .ok (.getfield 90, 3) := by decide +kernel
theorem dMo_bind_47 : decode cMo_bind 47 = .ok (.aload_n 0, 1) := by decide +kernel
theorem dMo_bind_48 : decode cMo_bind 48 = .ok (.getfield 262, 3) := by decide +kernel
theorem dMo_bind_51 : decode cMo_bind 51 = .ok (.aload_n 0, 1) := by decide +kernel
theorem dMo_bind_52 : decode cMo_bind 52 = .ok (.getfield 252, 3) := by decide +kernel
theorem dMo_bind_55 : decode cMo_bind 55 = .ok (.iastore, 1) := by decide +kernel
theorem dMo_bind_56 : decode cMo_bind 56 = .ok (.aload_n 0, 1) := by decide +kernel
theorem dMo_bind_57 : decode cMo_bind 57 = .ok (.getfield 93, 3) := by decide +kernel
theorem dMo_bind_60 : decode cMo_bind 60 = .ok (.aload_n 0, 1) := by decide +kernel
theorem dMo_bind_61 : decode cMo_bind 61 = .ok (.getfield 262, 3) := by decide +kernel
theorem dMo_bind_64 : decode cMo_bind 64 = .ok (.aload_n 0, 1) := by decide +kernel
theorem dMo_bind_65 : decode cMo_bind 65 = .ok (.getfield 255, 3) := by decide +kernel
theorem dMo_bind_68 : decode cMo_bind 68 = .ok (.iastore, 1) := by decide +kernel
theorem dMo_bind_69 : decode cMo_bind 69 = .ok (.aload_n 0, 1) := by decide +kernel
theorem dMo_bind_70 : decode cMo_bind 70 = .ok (.getfield 96, 3) := by decide +kernel
theorem dMo_bind_73 : decode cMo_bind 73 = .ok (.aload_n 0, 1) := by decide +kernel
theorem dMo_bind_74 : decode cMo_bind 74 = .ok (.getfield 262, 3) := by decide +kernel
theorem dMo_bind_77 : decode cMo_bind 77 = .ok (.aload_n 0, 1) := by decide +kernel
theorem dMo_bind_78 : decode cMo_bind 78 = .ok (.getfield 81, 3) := by decide +kernel
theorem dMo_bind_81 : decode cMo_bind 81 = .ok (.iload_n 1, 1) := by decide +kernel
theorem dMo_bind_82 : decode cMo_bind 82 = .ok (.iaload, 1) := by decide +kernel
theorem dMo_bind_83 : decode cMo_bind 83 = .ok (.iastore, 1) := by decide +kernel
theorem dMo_bind_84 : decode cMo_bind 84 = .ok (.aload_n 0, 1) := by decide +kernel
theorem dMo_bind_85 : decode cMo_bind 85 = .ok (.getfield 262, 3) := by decide +kernel
theorem dMo_bind_88 : decode cMo_bind 88 = .ok (.ireturn, 1) := by decide +kernel
def f_Mo_bind  (v1 : Int32) (σ : Mem) : Option (Int32 × Mem) :=
  lt_ (sI σ 15 36 ((σ.1 15 36) + (1 : Int32))) fun (σ1 : Mem) =>
  gd (inb v1 61) (
  gd (inb (σ1.1 37 v1.toNatClampNeg) 48) (
  gd (inb (σ1.1 15 36) 402) (lt_ (sI σ1 39 (σ1.1 15 36).toNatClampNeg (σ1.1 17 (σ1.1 37 v1.toNatClampNeg).toNatClampNeg)) fun (σ5 : Mem) =>
  gd (inb (σ5.1 15 36) 402) (lt_ (sI σ5 40 (σ5.1 15 36).toNatClampNeg (σ5.1 15 33)) fun (σ7 : Mem) =>
  gd (inb (σ7.1 15 36) 402) (lt_ (sI σ7 41 (σ7.1 15 36).toNatClampNeg (σ7.1 15 34)) fun (σ9 : Mem) =>
  gd (inb (σ9.1 15 36) 402) (lt_ (sI σ9 42 (σ9.1 15 36).toNatClampNeg (σ9.1 15 35)) fun (σ11 : Mem) =>
  gd (inb v1 61) (
  gd (inb (σ11.1 15 36) 402) (lt_ (sI σ11 43 (σ11.1 15 36).toNatClampNeg (σ11.1 38 v1.toNatClampNeg)) fun (σ14 : Mem) =>
  some (σ14.1 15 36, σ14)))))))))
set_option maxHeartbeats 4000000 in
set_option maxRecDepth 100000 in
theorem c_Mo_bind (l : Launch) (g : Gw) (hg : wInj g) {v1 : Int32} {r0 : Int32} {σ σ0 : Mem} (h : f_Mo_bind v1 σ = some (r0, σ0)) : KI l yMo_bind cMo_bind 2 (some .int) 0 g [.ref (ad g 15), .int v1] σ r0 σ0 := by
  refine q_met g hg (own := "TermBenchModel") rfl rfl (Nat.le_of_ble_eq_true rfl) (fun p e s m args below meth c R Q cx hRk hr hQ H locs ls hP hS hl => ?_)
  have hx := cx.1
  have hb := cx.2.1
  have hown := cx.2.2.2.1
  have hts := cx.2.2.2.2.1
  have hl : lv_has ls 2 [(0, .ref (ad g 15)), (1, .int v1)] := hl
  unfold f_Mo_bind at h
  refine lv_aload_n hx hb dMo_bind_0 rfl (lv_at hl 0 rfl) ?_
  refine lv_dup hx hb dMo_bind_1 rfl ?_
  refine g_Mo_bound cx hP  t_566 dMo_bind_2 ?_
  refine lv_iconst (v := 1) hx hb dMo_bind_5 (by decide) ?_
  refine lv_iadd hx hb dMo_bind_6 ?_
  obtain ⟨σ1, eσ1, h⟩ := lt_some h
  refine p_Mo_bound cx hP hS t_566 dMo_bind_7 eσ1 (fun H locs hP hS => ?_)
  refine lv_aload_n hx hb dMo_bind_10 rfl (lv_at hl 0 rfl) ?_
  refine g_Mo_boundName cx hP  t_567 dMo_bind_11 ?_
  refine lv_aload_n hx hb dMo_bind_14 rfl (lv_at hl 0 rfl) ?_
  refine g_Mo_bound cx hP  t_566 dMo_bind_15 ?_
  refine lv_aload_n hx hb dMo_bind_18 rfl (lv_at hl 0 rfl) ?_
  refine g_Mo_values cx hP  t_533 dMo_bind_19 ?_
  refine lv_aload_n hx hb dMo_bind_22 rfl (lv_at hl 0 rfl) ?_
  refine g_Mo_firstNumber cx hP  t_561 dMo_bind_23 ?_
  refine lv_iload_n hx hb dMo_bind_26 rfl (lv_at hl 1 rfl) ?_
  obtain ⟨b2, h⟩ := gd_some h
  refine q_iald cx hP (by decide) (e_37 g) b2 dMo_bind_27 ?_
  obtain ⟨b3, h⟩ := gd_some h
  refine q_iald cx hP (by decide) (e_17 g) b3 dMo_bind_28 ?_
  obtain ⟨b4, h⟩ := gd_some h
  obtain ⟨σ5, eσ5, h⟩ := lt_some h
  refine q_iast cx hP hS (by decide) (e_39 g) b4 dMo_bind_29 eσ5 (fun H locs hP hS => ?_)
  refine lv_aload_n hx hb dMo_bind_30 rfl (lv_at hl 0 rfl) ?_
  refine g_Mo_boundSort cx hP  t_568 dMo_bind_31 ?_
  refine lv_aload_n hx hb dMo_bind_34 rfl (lv_at hl 0 rfl) ?_
  refine g_Mo_bound cx hP  t_566 dMo_bind_35 ?_
  refine lv_aload_n hx hb dMo_bind_38 rfl (lv_at hl 0 rfl) ?_
  refine g_Mo_sort cx hP  t_563 dMo_bind_39 ?_
  obtain ⟨b6, h⟩ := gd_some h
  obtain ⟨σ7, eσ7, h⟩ := lt_some h
  refine q_iast cx hP hS (by decide) (e_40 g) b6 dMo_bind_42 eσ7 (fun H locs hP hS => ?_)
  refine lv_aload_n hx hb dMo_bind_43 rfl (lv_at hl 0 rfl) ?_
  refine g_Mo_boundNumber cx hP  t_569 dMo_bind_44 ?_
  refine lv_aload_n hx hb dMo_bind_47 rfl (lv_at hl 0 rfl) ?_
  refine g_Mo_bound cx hP  t_566 dMo_bind_48 ?_
  refine lv_aload_n hx hb dMo_bind_51 rfl (lv_at hl 0 rfl) ?_
  refine g_Mo_worth cx hP  t_564 dMo_bind_52 ?_
  obtain ⟨b8, h⟩ := gd_some h
  obtain ⟨σ9, eσ9, h⟩ := lt_some h
  refine q_iast cx hP hS (by decide) (e_41 g) b8 dMo_bind_55 eσ9 (fun H locs hP hS => ?_)
  refine lv_aload_n hx hb dMo_bind_56 rfl (lv_at hl 0 rfl) ?_
  refine g_Mo_boundNames cx hP  t_570 dMo_bind_57 ?_
  refine lv_aload_n hx hb dMo_bind_60 rfl (lv_at hl 0 rfl) ?_
  refine g_Mo_bound cx hP  t_566 dMo_bind_61 ?_
  refine lv_aload_n hx hb dMo_bind_64 rfl (lv_at hl 0 rfl) ?_
  refine g_Mo_around cx hP  t_565 dMo_bind_65 ?_
  obtain ⟨b10, h⟩ := gd_some h
  obtain ⟨σ11, eσ11, h⟩ := lt_some h
  refine q_iast cx hP hS (by decide) (e_42 g) b10 dMo_bind_68 eσ11 (fun H locs hP hS => ?_)
  refine lv_aload_n hx hb dMo_bind_69 rfl (lv_at hl 0 rfl) ?_
  refine g_Mo_before cx hP  t_571 dMo_bind_70 ?_
  refine lv_aload_n hx hb dMo_bind_73 rfl (lv_at hl 0 rfl) ?_
  refine g_Mo_bound cx hP  t_566 dMo_bind_74 ?_
  refine lv_aload_n hx hb dMo_bind_77 rfl (lv_at hl 0 rfl) ?_
  refine g_Mo_firstNames cx hP  t_562 dMo_bind_78 ?_
  refine lv_iload_n hx hb dMo_bind_81 rfl (lv_at hl 1 rfl) ?_
  obtain ⟨b12, h⟩ := gd_some h
  refine q_iald cx hP (by decide) (e_38 g) b12 dMo_bind_82 ?_
  obtain ⟨b13, h⟩ := gd_some h
  obtain ⟨σ14, eσ14, h⟩ := lt_some h
  refine q_iast cx hP hS (by decide) (e_43 g) b13 dMo_bind_83 eσ14 (fun H locs hP hS => ?_)
  refine lv_aload_n hx hb dMo_bind_84 rfl (lv_at hl 0 rfl) ?_
  refine g_Mo_bound cx hP  t_566 dMo_bind_85 ?_
  exact q_ri cx hr rfl hP hS hQ h dMo_bind_88
theorem dMo_isDone_0 : decode cMo_isDone 0 = .ok (.aload_n 0, 1) := by decide +kernel
theorem dMo_isDone_1 : decode cMo_isDone 1 = .ok (.getfield 66, 3) := by decide +kernel
theorem dMo_isDone_4 : decode cMo_isDone 4 = .ok (.iload_n 1, 1) := by decide +kernel
theorem dMo_isDone_5 : decode cMo_isDone 5 = .ok (.iaload, 1) := by decide +kernel
theorem dMo_isDone_6 : decode cMo_isDone 6 = .ok (.istore_n 2, 1) := by decide +kernel
theorem dMo_isDone_7 : decode cMo_isDone 7 = .ok (.aload_n 0, 1) := by decide +kernel
theorem dMo_isDone_8 : decode cMo_isDone 8 = .ok (.getfield 13, 3) := by decide +kernel
theorem dMo_isDone_11 : decode cMo_isDone 11 = .ok (.iload_n 2, 1) := by decide +kernel
theorem dMo_isDone_12 : decode cMo_isDone 12 = .ok (.iaload, 1) := by decide +kernel
theorem dMo_isDone_13 : decode cMo_isDone 13 = .ok (.istore_n 3, 1) := by decide +kernel
theorem dMo_isDone_14 : decode cMo_isDone 14 = .ok (.aload_n 0, 1) := by decide +kernel
theorem dMo_isDone_15 : decode cMo_isDone 15 = .ok (.getfield 45, 3) := by decide +kernel
theorem dMo_isDone_18 : decode cMo_isDone 18 = .ok (.iload_n 2, 1) := by decide +kernel
theorem dMo_isDone_19 : decode cMo_isDone 19 = .ok (.iaload, 1) := by decide +kernel
theorem dMo_isDone_20 : decode cMo_isDone 20 = .ok (.ifCond .ne 7, 3) := by decide +kernel
theorem dMo_isDone_23 : decode cMo_isDone 23 = .ok (.iload_n 3, 1) := by decide +kernel
theorem dMo_isDone_24 : decode cMo_isDone 24 = .ok (.ifCond .ne 13, 3) := by decide +kernel
theorem dMo_isDone_27 : decode cMo_isDone 27 = .ok (.aload_n 0, 1) := by decide +kernel
theorem dMo_isDone_28 : decode cMo_isDone 28 = .ok (.iconst 2, 1) := by decide +kernel
theorem dMo_isDone_29 : decode cMo_isDone 29 = .ok (.iconst 0, 1) := by decide +kernel
theorem dMo_isDone_30 : decode cMo_isDone 30 = .ok (.iconst 0, 1) := by decide +kernel
theorem dMo_isDone_31 : decode cMo_isDone 31 = .ok (.invokevirtual 258, 3) := by decide +kernel
theorem dMo_isDone_34 : decode cMo_isDone 34 = .ok (.goto 69, 3) := by decide +kernel
theorem dMo_isDone_37 : decode cMo_isDone 37 = .ok (.iload_n 3, 1) := by decide +kernel
theorem dMo_isDone_38 : decode cMo_isDone 38 = .ok (.iconst 1, 1) := by decide +kernel
theorem dMo_isDone_39 : decode cMo_isDone 39 = .ok (.if_icmp .ne 18, 3) := by decide +kernel
theorem dMo_isDone_42 : decode cMo_isDone 42 = .ok (.aload_n 0, 1) := by decide +kernel
theorem dMo_isDone_43 : decode cMo_isDone 43 = .ok (.iconst 0, 1) := by decide +kernel
theorem dMo_isDone_44 : decode cMo_isDone 44 = .ok (.aload_n 0, 1) := by decide +kernel
theorem dMo_isDone_45 : decode cMo_isDone 45 = .ok (.getfield 17, 3) := by decide +kernel
theorem dMo_isDone_48 : decode cMo_isDone 48 = .ok (.iload_n 2, 1) := by decide +kernel
theorem dMo_isDone_49 : decode cMo_isDone 49 = .ok (.iaload, 1) := by decide +kernel
theorem dMo_isDone_50 : decode cMo_isDone 50 = .ok (.iconst 0, 1) := by decide +kernel
theorem dMo_isDone_51 : decode cMo_isDone 51 = .ok (.invokevirtual 258, 3) := by decide +kernel
theorem dMo_isDone_54 : decode cMo_isDone 54 = .ok (.goto 49, 3) := by decide +kernel
theorem dMo_isDone_57 : decode cMo_isDone 57 = .ok (.iload_n 3, 1) := by decide +kernel
theorem dMo_isDone_58 : decode cMo_isDone 58 = .ok (.iconst 2, 1) := by decide +kernel
theorem dMo_isDone_59 : decode cMo_isDone 59 = .ok (.if_icmp .ne 22, 3) := by decide +kernel
theorem dMo_isDone_62 : decode cMo_isDone 62 = .ok (.aload_n 0, 1) := by decide +kernel
theorem dMo_isDone_63 : decode cMo_isDone 63 = .ok (.aload_n 0, 1) := by decide +kernel
theorem dMo_isDone_64 : decode cMo_isDone 64 = .ok (.getfield 17, 3) := by decide +kernel
theorem dMo_isDone_67 : decode cMo_isDone 67 = .ok (.iload_n 2, 1) := by decide +kernel
theorem dMo_isDone_68 : decode cMo_isDone 68 = .ok (.iaload, 1) := by decide +kernel
theorem dMo_isDone_69 : decode cMo_isDone 69 = .ok (.aload_n 0, 1) := by decide +kernel
theorem dMo_isDone_70 : decode cMo_isDone 70 = .ok (.getfield 72, 3) := by decide +kernel
theorem dMo_isDone_73 : decode cMo_isDone 73 = .ok (.iload_n 1, 1) := by decide +kernel
theorem dMo_isDone_74 : decode cMo_isDone 74 = .ok (.iaload, 1) := by decide +kernel
theorem dMo_isDone_75 : decode cMo_isDone 75 = .ok (.invokevirtual 265, 3) := by decide +kernel
theorem dMo_isDone_78 : decode cMo_isDone 78 = .ok (.goto 25, 3) := by decide +kernel
theorem dMo_isDone_81 : decode cMo_isDone 81 = .ok (.iload_n 3, 1) := by decide +kernel
theorem dMo_isDone_82 : decode cMo_isDone 82 = .ok (.iconst 5, 1) := by decide +kernel
theorem dMo_isDone_83 : decode cMo_isDone 83 = .ok (.if_icmp .ne 18, 3) := by decide +kernel
theorem dMo_isDone_86 : decode cMo_isDone 86 = .ok (.aload_n 0, 1) := by decide +kernel
theorem dMo_isDone_87 : decode cMo_isDone 87 = .ok (.iconst 1, 1) := by decide +kernel
theorem dMo_isDone_88 : decode cMo_isDone 88 = .ok (.iload_n 2, 1) := by decide +kernel
theorem dMo_isDone_89 : decode cMo_isDone 89 = .ok (.aload_n 0, 1) := by decide +kernel
theorem dMo_isDone_90 : decode cMo_isDone 90 = .ok (.getfield 72, 3) := by decide +kernel
theorem dMo_isDone_93 : decode cMo_isDone 93 = .ok (.iload_n 1, 1) := by decide +kernel
theorem dMo_isDone_94 : decode cMo_isDone 94 = .ok (.iaload, 1) := by decide +kernel
theorem dMo_isDone_95 : decode cMo_isDone 95 = .ok (.invokevirtual 258, 3) := by decide +kernel
theorem dMo_isDone_98 : decode cMo_isDone 98 = .ok (.goto 5, 3) := by decide +kernel
theorem dMo_isDone_101 : decode cMo_isDone 101 = .ok (.iconst 0, 1) := by decide +kernel
theorem dMo_isDone_102 : decode cMo_isDone 102 = .ok (.ireturn, 1) := by decide +kernel
theorem dMo_isDone_103 : decode cMo_isDone 103 = .ok (.iconst 1, 1) := by decide +kernel
theorem dMo_isDone_104 : decode cMo_isDone 104 = .ok (.ireturn, 1) := by decide +kernel
def f_Mo_isDone_J103  (v1 : Int32) (v2 : Int32) (v3 : Int32) (σ : Mem) : Option (Int32 × Mem) :=
  some ((1 : Int32), σ)
def f_Mo_isDone_J27  (v1 : Int32) (v2 : Int32) (v3 : Int32) (σ : Mem) : Option (Int32 × Mem) :=
  bn (f_Mo_value (2 : Int32) (0 : Int32) (0 : Int32) σ) fun (_ : Unit) (σ2 : Mem) =>
  f_Mo_isDone_J103 v1 v2 v3 σ2
def f_Mo_isDone  (v1 : Int32) (σ : Mem) : Option (Int32 × Mem) :=
  gd (inb v1 61) (
  lt_ (σ.1 33 v1.toNatClampNeg) fun (x4 : Int32) =>
  gd (inb x4 48) (
  lt_ (σ.1 16 x4.toNatClampNeg) fun (x6 : Int32) =>
  gd (inb x4 48) (
  if (σ.1 26 x4.toNatClampNeg) = 0 then (
  if x6 = 0 then (
  f_Mo_isDone_J27 v1 x4 x6 σ)
  else (
  if x6 = (1 : Int32) then (
  gd (inb x4 48) (
  bn (f_Mo_value (0 : Int32) (σ.1 17 x4.toNatClampNeg) (0 : Int32) σ) fun (_ : Unit) (σ17 : Mem) =>
  f_Mo_isDone_J103 v1 x4 x6 σ17))
  else (
  if x6 = (2 : Int32) then (
  gd (inb x4 48) (
  gd (inb v1 61) (
  bn (f_Mo_lookUp (σ.1 17 x4.toNatClampNeg) (σ.1 35 v1.toNatClampNeg) σ) fun (_ : Unit) (σ14 : Mem) =>
  f_Mo_isDone_J103 v1 x4 x6 σ14)))
  else (
  if x6 = (5 : Int32) then (
  gd (inb v1 61) (
  bn (f_Mo_value (1 : Int32) x4 (σ.1 35 v1.toNatClampNeg) σ) fun (_ : Unit) (σ10 : Mem) =>
  f_Mo_isDone_J103 v1 x4 x6 σ10))
  else (
  some ((0 : Int32), σ))))))
  else (
  f_Mo_isDone_J27 v1 x4 x6 σ))))
set_option maxHeartbeats 4000000 in
set_option maxRecDepth 100000 in
theorem c_Mo_isDone (l : Launch) (g : Gw) (hg : wInj g) {v1 : Int32} {r0 : Int32} {σ σ0 : Mem} (h : f_Mo_isDone v1 σ = some (r0, σ0)) : KI l yMo_isDone cMo_isDone 4 (some .boolean) 2 g [.ref (ad g 15), .int v1] σ r0 σ0 := by
  refine q_met g hg (own := "TermBenchModel") rfl rfl (Nat.le_of_ble_eq_true rfl) (fun p e s m args below meth c R Q cx hRk hr hQ H locs ls hP hS hl => ?_)
  have hx := cx.1
  have hb := cx.2.1
  have hown := cx.2.2.2.1
  have hts := cx.2.2.2.2.1
  have hl : lv_has ls 4 [(0, .ref (ad g 15)), (1, .int v1)] := hl
  have J103 : ∀ (v1 : Int32) (v2 : Int32) (v3 : Int32) (σ : Mem), f_Mo_isDone_J103 v1 v2 v3 σ = some (r0, σ0) → ∀ (H : Heap) (locs : List Loc) (ls : Array Slot), lv_has ls 4 [(0, .ref (ad g 15)), (1, .int v1), (2, .int v2), (3, .int v3)] → Wd g σ H → va_S (wA g) s.heap H locs → W p l e R s m args below meth c H locs 0 0 Q (F0 m 103 ls []) := by
    intro v1 v2 v3 σ h H locs ls hl hP hS
    unfold f_Mo_isDone_J103 at h
    refine lv_iconst (v := 1) hx hb dMo_isDone_103 (by decide) ?_
    exact q_ri cx hr rfl hP hS hQ h dMo_isDone_104
  have J27 : ∀ (v1 : Int32) (v2 : Int32) (v3 : Int32) (σ : Mem), f_Mo_isDone_J27 v1 v2 v3 σ = some (r0, σ0) → ∀ (H : Heap) (locs : List Loc) (ls : Array Slot), lv_has ls 4 [(0, .ref (ad g 15)), (1, .int v1), (2, .int v2), (3, .int v3)] → Wd g σ H → va_S (wA g) s.heap H locs → W p l e R s m args below meth c H locs 0 0 Q (F0 m 27 ls []) := by
    intro v1 v2 v3 σ h H locs ls hl hP hS
    unfold f_Mo_isDone_J27 at h
    refine lv_aload_n hx hb dMo_isDone_27 rfl (lv_at hl 0 rfl) ?_
    refine lv_iconst (v := 2) hx hb dMo_isDone_28 (by decide) ?_
    refine lv_iconst (v := 0) hx hb dMo_isDone_29 (by decide) ?_
    refine lv_iconst (v := 0) hx hb dMo_isDone_30 (by decide) ?_
    obtain ⟨rh1, σ2, h1, h⟩ := bn_some h
    refine q_cVv (rest := []) (As := [.int (2 : Int32), .int (0 : Int32), .int (0 : Int32)]) cx hP hS hRk (c_Mo_value l g hg h1) Y_Mo_value V_Mo_value t_889 (by decide) (by decide) (e_15 g _ _) rfl rfl hl.1 rfl (Nat.le_of_ble_eq_true rfl) dMo_isDone_31 (fun H locs hP hS => ?_)
    refine lv_goto (tgt := 103) hx hb dMo_isDone_34 (by decide) ?_
    exact J103 _ _ _ _ h _ _ _ (lv_sub hl [0, 1, 2, 3] rfl) hP hS
  unfold f_Mo_isDone at h
  refine lv_aload_n hx hb dMo_isDone_0 rfl (lv_at hl 0 rfl) ?_
  refine g_Mo_term cx hP  t_557 dMo_isDone_1 ?_
  refine lv_iload_n hx hb dMo_isDone_4 rfl (lv_at hl 1 rfl) ?_
  obtain ⟨b3, h⟩ := gd_some h
  refine q_iald cx hP (by decide) (e_33 g) b3 dMo_isDone_5 ?_
  obtain ⟨x4, ex4, h⟩ := lt_some h
  refine q_nmi ex4 ?_
  refine lv_istore_n (lv' := [(2, .int x4), (0, .ref (ad g 15)), (1, .int v1)]) hx hb dMo_isDone_6 rfl hl (Nat.le_of_ble_eq_true rfl) rfl (fun ls hl => ?_)
  refine lv_aload_n hx hb dMo_isDone_7 rfl (lv_at hl 1 rfl) ?_
  refine g_Mo_kinds cx hP  t_532 dMo_isDone_8 ?_
  refine lv_iload_n hx hb dMo_isDone_11 rfl (lv_at hl 0 rfl) ?_
  obtain ⟨b5, h⟩ := gd_some h
  refine q_iald cx hP (by decide) (e_16 g) b5 dMo_isDone_12 ?_
  obtain ⟨x6, ex6, h⟩ := lt_some h
  refine q_nmi ex6 ?_
  refine lv_istore_n (lv' := [(3, .int x6), (2, .int x4), (0, .ref (ad g 15)), (1, .int v1)]) hx hb dMo_isDone_13 rfl hl (Nat.le_of_ble_eq_true rfl) rfl (fun ls hl => ?_)
  refine lv_aload_n hx hb dMo_isDone_14 rfl (lv_at hl 2 rfl) ?_
  refine g_Mo_marked cx hP  t_545 dMo_isDone_15 ?_
  refine lv_iload_n hx hb dMo_isDone_18 rfl (lv_at hl 1 rfl) ?_
  obtain ⟨b7, h⟩ := gd_some h
  refine q_iald cx hP (by decide) (e_26 g) b7 dMo_isDone_19 ?_
  refine lv_if_ne (tgt := 27) hx hb dMo_isDone_20 (by decide) (fun hc => ?_) (fun hc => ?_)
  · replace h := if_f h hc
    exact J27 _ _ _ _ h _ _ _ (lv_sub hl [2, 3, 1, 0] rfl) hP hS
  · replace h := if_t h hc
    refine lv_iload_n hx hb dMo_isDone_23 rfl (lv_at hl 0 rfl) ?_
    refine lv_if_ne (tgt := 37) hx hb dMo_isDone_24 (by decide) (fun hc => ?_) (fun hc => ?_)
    · replace h := if_f h hc
      refine lv_iload_n hx hb dMo_isDone_37 rfl (lv_at hl 0 rfl) ?_
      refine lv_iconst (v := 1) hx hb dMo_isDone_38 (by decide) ?_
      refine lv_icmp_ne (tgt := 57) hx hb dMo_isDone_39 (by decide) (fun hc => ?_) (fun hc => ?_)
      · replace h := if_f h hc
        refine lv_iload_n hx hb dMo_isDone_57 rfl (lv_at hl 0 rfl) ?_
        refine lv_iconst (v := 2) hx hb dMo_isDone_58 (by decide) ?_
        refine lv_icmp_ne (tgt := 81) hx hb dMo_isDone_59 (by decide) (fun hc => ?_) (fun hc => ?_)
        · replace h := if_f h hc
          refine lv_iload_n hx hb dMo_isDone_81 rfl (lv_at hl 0 rfl) ?_
          refine lv_iconst (v := 5) hx hb dMo_isDone_82 (by decide) ?_
          refine lv_icmp_ne (tgt := 101) hx hb dMo_isDone_83 (by decide) (fun hc => ?_) (fun hc => ?_)
          · replace h := if_f h hc
            refine lv_iconst (v := 0) hx hb dMo_isDone_101 (by decide) ?_
            exact q_ri cx hr rfl hP hS hQ h dMo_isDone_102
          · replace h := if_t h hc
            refine lv_aload_n hx hb dMo_isDone_86 rfl (lv_at hl 2 rfl) ?_
            refine lv_iconst (v := 1) hx hb dMo_isDone_87 (by decide) ?_
            refine lv_iload_n hx hb dMo_isDone_88 rfl (lv_at hl 1 rfl) ?_
            refine lv_aload_n hx hb dMo_isDone_89 rfl (lv_at hl 2 rfl) ?_
            refine g_Mo_names cx hP  t_559 dMo_isDone_90 ?_
            refine lv_iload_n hx hb dMo_isDone_93 rfl (lv_at hl 3 rfl) ?_
            obtain ⟨b8, h⟩ := gd_some h
            refine q_iald cx hP (by decide) (e_35 g) b8 dMo_isDone_94 ?_
            obtain ⟨rh9, σ10, h9, h⟩ := bn_some h
            refine q_cVv (rest := []) (As := [.int (1 : Int32), .int x4, .int (σ.1 35 v1.toNatClampNeg)]) cx hP hS hRk (c_Mo_value l g hg h9) Y_Mo_value V_Mo_value t_889 (by decide) (by decide) (e_15 g _ _) rfl rfl hl.1 rfl (Nat.le_of_ble_eq_true rfl) dMo_isDone_95 (fun H locs hP hS => ?_)
            refine lv_goto (tgt := 103) hx hb dMo_isDone_98 (by decide) ?_
            exact J103 _ _ _ _ h _ _ _ (lv_sub hl [2, 3, 1, 0] rfl) hP hS
        · replace h := if_t h hc
          refine lv_aload_n hx hb dMo_isDone_62 rfl (lv_at hl 2 rfl) ?_
          refine lv_aload_n hx hb dMo_isDone_63 rfl (lv_at hl 2 rfl) ?_
          refine g_Mo_values cx hP  t_533 dMo_isDone_64 ?_
          refine lv_iload_n hx hb dMo_isDone_67 rfl (lv_at hl 1 rfl) ?_
          obtain ⟨b11, h⟩ := gd_some h
          refine q_iald cx hP (by decide) (e_17 g) b11 dMo_isDone_68 ?_
          refine lv_aload_n hx hb dMo_isDone_69 rfl (lv_at hl 2 rfl) ?_
          refine g_Mo_names cx hP  t_559 dMo_isDone_70 ?_
          refine lv_iload_n hx hb dMo_isDone_73 rfl (lv_at hl 3 rfl) ?_
          obtain ⟨b12, h⟩ := gd_some h
          refine q_iald cx hP (by decide) (e_35 g) b12 dMo_isDone_74 ?_
          obtain ⟨rh13, σ14, h13, h⟩ := bn_some h
          refine q_cVv (rest := []) (As := [.int (σ.1 17 x4.toNatClampNeg), .int (σ.1 35 v1.toNatClampNeg)]) cx hP hS hRk (c_Mo_lookUp l g hg h13) Y_Mo_lookUp V_Mo_lookUp t_893 (by decide) (by decide) (e_15 g _ _) rfl rfl hl.1 rfl (Nat.le_of_ble_eq_true rfl) dMo_isDone_75 (fun H locs hP hS => ?_)
          refine lv_goto (tgt := 103) hx hb dMo_isDone_78 (by decide) ?_
          exact J103 _ _ _ _ h _ _ _ (lv_sub hl [2, 3, 1, 0] rfl) hP hS
      · replace h := if_t h hc
        refine lv_aload_n hx hb dMo_isDone_42 rfl (lv_at hl 2 rfl) ?_
        refine lv_iconst (v := 0) hx hb dMo_isDone_43 (by decide) ?_
        refine lv_aload_n hx hb dMo_isDone_44 rfl (lv_at hl 2 rfl) ?_
        refine g_Mo_values cx hP  t_533 dMo_isDone_45 ?_
        refine lv_iload_n hx hb dMo_isDone_48 rfl (lv_at hl 1 rfl) ?_
        obtain ⟨b15, h⟩ := gd_some h
        refine q_iald cx hP (by decide) (e_17 g) b15 dMo_isDone_49 ?_
        refine lv_iconst (v := 0) hx hb dMo_isDone_50 (by decide) ?_
        obtain ⟨rh16, σ17, h16, h⟩ := bn_some h
        refine q_cVv (rest := []) (As := [.int (0 : Int32), .int (σ.1 17 x4.toNatClampNeg), .int (0 : Int32)]) cx hP hS hRk (c_Mo_value l g hg h16) Y_Mo_value V_Mo_value t_889 (by decide) (by decide) (e_15 g _ _) rfl rfl hl.1 rfl (Nat.le_of_ble_eq_true rfl) dMo_isDone_51 (fun H locs hP hS => ?_)
        refine lv_goto (tgt := 103) hx hb dMo_isDone_54 (by decide) ?_
        exact J103 _ _ _ _ h _ _ _ (lv_sub hl [2, 3, 1, 0] rfl) hP hS
    · replace h := if_t h hc
      exact J27 _ _ _ _ h _ _ _ (lv_sub hl [2, 3, 1, 0] rfl) hP hS
theorem dMo_second_0 : decode cMo_second 0 = .ok (.aload_n 0, 1) := by decide +kernel
theorem dMo_second_1 : decode cMo_second 1 = .ok (.getfield 75, 3) := by decide +kernel
theorem dMo_second_4 : decode cMo_second 4 = .ok (.iload_n 1, 1) := by decide +kernel
theorem dMo_second_5 : decode cMo_second 5 = .ok (.aload_n 0, 1) := by decide +kernel
theorem dMo_second_6 : decode cMo_second 6 = .ok (.getfield 249, 3) := by decide +kernel
theorem dMo_second_9 : decode cMo_second 9 = .ok (.iastore, 1) := by decide +kernel
theorem dMo_second_10 : decode cMo_second 10 = .ok (.aload_n 0, 1) := by decide +kernel
theorem dMo_second_11 : decode cMo_second 11 = .ok (.getfield 78, 3) := by decide +kernel
theorem dMo_second_14 : decode cMo_second 14 = .ok (.iload_n 1, 1) := by decide +kernel
theorem dMo_second_15 : decode cMo_second 15 = .ok (.aload_n 0, 1) := by decide +kernel
theorem dMo_second_16 : decode cMo_second 16 = .ok (.getfield 252, 3) := by decide +kernel
theorem dMo_second_19 : decode cMo_second 19 = .ok (.iastore, 1) := by decide +kernel
theorem dMo_second_20 : decode cMo_second 20 = .ok (.aload_n 0, 1) := by decide +kernel
theorem dMo_second_21 : decode cMo_second 21 = .ok (.getfield 81, 3) := by decide +kernel
theorem dMo_second_24 : decode cMo_second 24 = .ok (.iload_n 1, 1) := by decide +kernel
theorem dMo_second_25 : decode cMo_second 25 = .ok (.aload_n 0, 1) := by decide +kernel
theorem dMo_second_26 : decode cMo_second 26 = .ok (.getfield 255, 3) := by decide +kernel
theorem dMo_second_29 : decode cMo_second 29 = .ok (.iastore, 1) := by decide +kernel
theorem dMo_second_30 : decode cMo_second 30 = .ok (.aload_n 0, 1) := by decide +kernel
theorem dMo_second_31 : decode cMo_second 31 = .ok (.getfield 69, 3) := by decide +kernel
theorem dMo_second_34 : decode cMo_second 34 = .ok (.iload_n 1, 1) := by decide +kernel
theorem dMo_second_35 : decode cMo_second 35 = .ok (.iconst 2, 1) := by decide +kernel
theorem dMo_second_36 : decode cMo_second 36 = .ok (.iastore, 1) := by decide +kernel
theorem dMo_second_37 : decode cMo_second 37 = .ok (.aload_n 0, 1) := by decide +kernel
theorem dMo_second_38 : decode cMo_second 38 = .ok (.aload_n 0, 1) := by decide +kernel
theorem dMo_second_39 : decode cMo_second 39 = .ok (.aload_n 0, 1) := by decide +kernel
theorem dMo_second_40 : decode cMo_second 40 = .ok (.getfield 66, 3) := by decide +kernel
theorem dMo_second_43 : decode cMo_second 43 = .ok (.iload_n 1, 1) := by decide +kernel
theorem dMo_second_44 : decode cMo_second 44 = .ok (.iaload, 1) := by decide +kernel
theorem dMo_second_45 : decode cMo_second 45 = .ok (.iconst 1, 1) := by decide +kernel
theorem dMo_second_46 : decode cMo_second 46 = .ok (.invokevirtual 177, 3) := by decide +kernel
theorem dMo_second_49 : decode cMo_second 49 = .ok (.aload_n 0, 1) := by decide +kernel
theorem dMo_second_50 : decode cMo_second 50 = .ok (.getfield 72, 3) := by decide +kernel
theorem dMo_second_53 : decode cMo_second 53 = .ok (.iload_n 1, 1) := by decide +kernel
theorem dMo_second_54 : decode cMo_second 54 = .ok (.iaload, 1) := by decide +kernel
theorem dMo_second_55 : decode cMo_second 55 = .ok (.invokevirtual 268, 3) := by decide +kernel
theorem dMo_second_58 : decode cMo_second 58 = .ok (.ireturn, 1) := by decide +kernel
def f_Mo_second  (v1 : Int32) (σ : Mem) : Option (Int32 × Mem) :=
  gd (inb v1 61) (lt_ (sI σ 36 v1.toNatClampNeg (σ.1 15 33)) fun (σ2 : Mem) =>
  gd (inb v1 61) (lt_ (sI σ2 37 v1.toNatClampNeg (σ2.1 15 34)) fun (σ4 : Mem) =>
  gd (inb v1 61) (lt_ (sI σ4 38 v1.toNatClampNeg (σ4.1 15 35)) fun (σ6 : Mem) =>
  gd (inb v1 61) (lt_ (sI σ6 34 v1.toNatClampNeg (2 : Int32)) fun (σ8 : Mem) =>
  gd (inb v1 61) (
  bn (f_Mo_part (σ8.1 33 v1.toNatClampNeg) (1 : Int32) σ8) fun (r12 : Int32) (σ11 : Mem) =>
  gd (inb v1 61) (
  bn (f_Mo_enter r12 (σ11.1 35 v1.toNatClampNeg) σ11) fun (r16 : Int32) (σ15 : Mem) =>
  gd (isB r16) (some (r16, σ15))))))))
set_option maxHeartbeats 4000000 in
set_option maxRecDepth 100000 in
theorem c_Mo_second (l : Launch) (g : Gw) (hg : wInj g) {v1 : Int32} {r0 : Int32} {σ σ0 : Mem} (h : f_Mo_second v1 σ = some (r0, σ0)) : KI l yMo_second cMo_second 2 (some .boolean) 3 g [.ref (ad g 15), .int v1] σ r0 σ0 := by
  refine q_met g hg (own := "TermBenchModel") rfl rfl (Nat.le_of_ble_eq_true rfl) (fun p e s m args below meth c R Q cx hRk hr hQ H locs ls hP hS hl => ?_)
  have hx := cx.1
  have hb := cx.2.1
  have hown := cx.2.2.2.1
  have hts := cx.2.2.2.2.1
  have hl : lv_has ls 2 [(0, .ref (ad g 15)), (1, .int v1)] := hl
  unfold f_Mo_second at h
  refine lv_aload_n hx hb dMo_second_0 rfl (lv_at hl 0 rfl) ?_
  refine g_Mo_firstSort cx hP  t_560 dMo_second_1 ?_
  refine lv_iload_n hx hb dMo_second_4 rfl (lv_at hl 1 rfl) ?_
  refine lv_aload_n hx hb dMo_second_5 rfl (lv_at hl 0 rfl) ?_
  refine g_Mo_sort cx hP  t_563 dMo_second_6 ?_
  obtain ⟨b1, h⟩ := gd_some h
  obtain ⟨σ2, eσ2, h⟩ := lt_some h
  refine q_iast cx hP hS (by decide) (e_36 g) b1 dMo_second_9 eσ2 (fun H locs hP hS => ?_)
  refine lv_aload_n hx hb dMo_second_10 rfl (lv_at hl 0 rfl) ?_
  refine g_Mo_firstNumber cx hP  t_561 dMo_second_11 ?_
  refine lv_iload_n hx hb dMo_second_14 rfl (lv_at hl 1 rfl) ?_
  refine lv_aload_n hx hb dMo_second_15 rfl (lv_at hl 0 rfl) ?_
  refine g_Mo_worth cx hP  t_564 dMo_second_16 ?_
  obtain ⟨b3, h⟩ := gd_some h
  obtain ⟨σ4, eσ4, h⟩ := lt_some h
  refine q_iast cx hP hS (by decide) (e_37 g) b3 dMo_second_19 eσ4 (fun H locs hP hS => ?_)
  refine lv_aload_n hx hb dMo_second_20 rfl (lv_at hl 0 rfl) ?_
  refine g_Mo_firstNames cx hP  t_562 dMo_second_21 ?_
  refine lv_iload_n hx hb dMo_second_24 rfl (lv_at hl 1 rfl) ?_
  refine lv_aload_n hx hb dMo_second_25 rfl (lv_at hl 0 rfl) ?_
  refine g_Mo_around cx hP  t_565 dMo_second_26 ?_
  obtain ⟨b5, h⟩ := gd_some h
  obtain ⟨σ6, eσ6, h⟩ := lt_some h
  refine q_iast cx hP hS (by decide) (e_38 g) b5 dMo_second_29 eσ6 (fun H locs hP hS => ?_)
  refine lv_aload_n hx hb dMo_second_30 rfl (lv_at hl 0 rfl) ?_
  refine g_Mo_stage cx hP  t_558 dMo_second_31 ?_
  refine lv_iload_n hx hb dMo_second_34 rfl (lv_at hl 1 rfl) ?_
  refine lv_iconst (v := 2) hx hb dMo_second_35 (by decide) ?_
  obtain ⟨b7, h⟩ := gd_some h
  obtain ⟨σ8, eσ8, h⟩ := lt_some h
  refine q_iast cx hP hS (by decide) (e_34 g) b7 dMo_second_36 eσ8 (fun H locs hP hS => ?_)
  refine lv_aload_n hx hb dMo_second_37 rfl (lv_at hl 0 rfl) ?_
  refine lv_aload_n hx hb dMo_second_38 rfl (lv_at hl 0 rfl) ?_
  refine lv_aload_n hx hb dMo_second_39 rfl (lv_at hl 0 rfl) ?_
  refine g_Mo_term cx hP  t_557 dMo_second_40 ?_
  refine lv_iload_n hx hb dMo_second_43 rfl (lv_at hl 1 rfl) ?_
  obtain ⟨b9, h⟩ := gd_some h
  refine q_iald cx hP (by decide) (e_33 g) b9 dMo_second_44 ?_
  refine lv_iconst (v := 1) hx hb dMo_second_45 (by decide) ?_
  obtain ⟨r12, σ11, h10, h⟩ := bn_some h
  refine q_cVi (rest := [.ref (ad g 15)]) (As := [.int (σ8.1 33 v1.toNatClampNeg), .int (1 : Int32)]) cx hP hS hRk (c_Mo_part l g hg h10) Y_Mo_part V_Mo_part t_766 (by decide) (by decide) (e_15 g _ _) rfl rfl hl.1 rfl (Nat.le_of_ble_eq_true rfl) dMo_second_46 (fun H locs hP hS => ?_)
  refine lv_aload_n hx hb dMo_second_49 rfl (lv_at hl 0 rfl) ?_
  refine g_Mo_names cx hP  t_559 dMo_second_50 ?_
  refine lv_iload_n hx hb dMo_second_53 rfl (lv_at hl 1 rfl) ?_
  obtain ⟨b13, h⟩ := gd_some h
  refine q_iald cx hP (by decide) (e_35 g) b13 dMo_second_54 ?_
  obtain ⟨r16, σ15, h14, h⟩ := bn_some h
  refine q_cVi (rest := []) (As := [.int r12, .int (σ11.1 35 v1.toNatClampNeg)]) cx hP hS hRk (c_Mo_enter l g hg h14) Y_Mo_enter V_Mo_enter t_881 (by decide) (by decide) (e_15 g _ _) rfl rfl hl.1 rfl (Nat.le_of_ble_eq_true rfl) dMo_second_55 (fun H locs hP hS => ?_)
  obtain ⟨b17, h⟩ := gd_some h
  exact q_ri cx hr (isB_n b17) hP hS hQ h dMo_second_58
theorem dMo_add_0 : decode cMo_add 0 = .ok (.aload_n 0, 1) := by decide +kernel
theorem dMo_add_1 : decode cMo_add 1 = .ok (.getfield 249, 3) := by decide +kernel
theorem dMo_add_4 : decode cMo_add 4 = .ok (.ifCond .ne 16, 3) := by decide +kernel
theorem dMo_add_7 : decode cMo_add 7 = .ok (.aload_n 0, 1) := by decide +kernel
theorem dMo_add_8 : decode cMo_add 8 = .ok (.getfield 75, 3) := by decide +kernel
theorem dMo_add_11 : decode cMo_add 11 = .ok (.iload_n 1, 1) := by decide +kernel
theorem dMo_add_12 : decode cMo_add 12 = .ok (.iaload, 1) := by decide +kernel
theorem dMo_add_13 : decode cMo_add 13 = .ok (.ifCond .ne 7, 3) := by decide +kernel
theorem dMo_add_16 : decode cMo_add 16 = .ok (.iconst 1, 1) := by decide +kernel
theorem dMo_add_17 : decode cMo_add 17 = .ok (.goto 4, 3) := by decide +kernel
theorem dMo_add_20 : decode cMo_add 20 = .ok (.iconst 0, 1) := by decide +kernel
theorem dMo_add_21 : decode cMo_add 21 = .ok (.istore_n 2, 1) := by decide +kernel
theorem dMo_add_22 : decode cMo_add 22 = .ok (.aload_n 0, 1) := by decide +kernel
theorem dMo_add_23 : decode cMo_add 23 = .ok (.iload_n 2, 1) := by decide +kernel
theorem dMo_add_24 : decode cMo_add 24 = .ok (.ifCond .eq 7, 3) := by decide +kernel
theorem dMo_add_27 : decode cMo_add 27 = .ok (.iconst 0, 1) := by decide +kernel
theorem dMo_add_28 : decode cMo_add 28 = .ok (.goto 4, 3) := by decide +kernel
theorem dMo_add_31 : decode cMo_add 31 = .ok (.iconst 2, 1) := by decide +kernel
theorem dMo_add_32 : decode cMo_add 32 = .ok (.iload_n 2, 1) := by decide +kernel
theorem dMo_add_33 : decode cMo_add 33 = .ok (.ifCond .eq 17, 3) := by decide +kernel
theorem dMo_add_36 : decode cMo_add 36 = .ok (.aload_n 0, 1) := by decide +kernel
theorem dMo_add_37 : decode cMo_add 37 = .ok (.getfield 78, 3) := by decide +kernel
theorem dMo_add_40 : decode cMo_add 40 = .ok (.iload_n 1, 1) := by decide +kernel
theorem dMo_add_41 : decode cMo_add 41 = .ok (.iaload, 1) := by decide +kernel
theorem dMo_add_42 : decode cMo_add 42 = .ok (.aload_n 0, 1) := by decide +kernel
theorem dMo_add_43 : decode cMo_add 43 = .ok (.getfield 252, 3) := by decide +kernel
theorem dMo_add_46 : decode cMo_add 46 = .ok (.iadd, 1) := by decide +kernel
theorem dMo_add_47 : decode cMo_add 47 = .ok (.goto 4, 3) := by decide +kernel
theorem dMo_add_50 : decode cMo_add 50 = .ok (.iconst 0, 1) := by decide +kernel
theorem dMo_add_51 : decode cMo_add 51 = .ok (.iconst 0, 1) := by decide +kernel
theorem dMo_add_52 : decode cMo_add 52 = .ok (.invokevirtual 258, 3) := by decide +kernel
theorem dMo_add_55 : decode cMo_add 55 = .ok (.return_, 1) := by decide +kernel
def f_Mo_add_J51  (v1 : Int32) (v2 : Int32) (u1 : Int32) (u2 : Int32) (σ : Mem) : Option (Unit × Mem) :=
  bn (f_Mo_value u1 u2 (0 : Int32) σ) fun (_ : Unit) (σ2 : Mem) =>
  some ((), σ2)
def f_Mo_add_J32  (v1 : Int32) (v2 : Int32) (u1 : Int32) (σ : Mem) : Option (Unit × Mem) :=
  if v2 = 0 then (
  f_Mo_add_J51 v1 v2 u1 (0 : Int32) σ)
  else (
  gd (inb v1 61) (
  f_Mo_add_J51 v1 v2 u1 ((σ.1 37 v1.toNatClampNeg) + (σ.1 15 34)) σ))
def f_Mo_add_J21  (v1 : Int32) (u0 : Int32) (σ : Mem) : Option (Unit × Mem) :=
  if u0 = 0 then (
  f_Mo_add_J32 v1 u0 (2 : Int32) σ)
  else (
  f_Mo_add_J32 v1 u0 (0 : Int32) σ)
def f_Mo_add_J20  (v1 : Int32) (σ : Mem) : Option (Unit × Mem) :=
  f_Mo_add_J21 v1 (0 : Int32) σ
def f_Mo_add  (v1 : Int32) (σ : Mem) : Option (Unit × Mem) :=
  if (σ.1 15 33) = 0 then (
  gd (inb v1 61) (
  if (σ.1 36 v1.toNatClampNeg) = 0 then (
  f_Mo_add_J21 v1 (1 : Int32) σ)
  else (
  f_Mo_add_J20 v1 σ)))
  else (
  f_Mo_add_J20 v1 σ)
set_option maxHeartbeats 4000000 in
set_option maxRecDepth 100000 in
theorem c_Mo_add (l : Launch) (g : Gw) (hg : wInj g) {v1 : Int32} {σ σ0 : Mem} (h : f_Mo_add v1 σ = some ((), σ0)) : KV l yMo_add cMo_add 3 none 1 g [.ref (ad g 15), .int v1] σ σ0 := by
  refine q_met g hg (own := "TermBenchModel") rfl rfl (Nat.le_of_ble_eq_true rfl) (fun p e s m args below meth c R Q cx hRk hr hQ H locs ls hP hS hl => ?_)
  have hx := cx.1
  have hb := cx.2.1
  have hown := cx.2.2.2.1
  have hts := cx.2.2.2.2.1
  have hl : lv_has ls 3 [(0, .ref (ad g 15)), (1, .int v1)] := hl
  have J51 : ∀ (v1 : Int32) (v2 : Int32) (u1 : Int32) (u2 : Int32) (σ : Mem), f_Mo_add_J51 v1 v2 u1 u2 σ = some ((), σ0) → ∀ (H : Heap) (locs : List Loc) (ls : Array Slot), lv_has ls 3 [(0, .ref (ad g 15)), (1, .int v1), (2, .int v2)] → Wd g σ H → va_S (wA g) s.heap H locs → W p l e R s m args below meth c H locs 0 0 Q (F0 m 51 ls [.int u2, .int u1, .ref (ad g 15)]) := by
    intro v1 v2 u1 u2 σ h H locs ls hl hP hS
    unfold f_Mo_add_J51 at h
    refine lv_iconst (v := 0) hx hb dMo_add_51 (by decide) ?_
    obtain ⟨rh1, σ2, h1, h⟩ := bn_some h
    refine q_cVv (rest := []) (As := [.int u1, .int u2, .int (0 : Int32)]) cx hP hS hRk (c_Mo_value l g hg h1) Y_Mo_value V_Mo_value t_889 (by decide) (by decide) (e_15 g _ _) rfl rfl hl.1 rfl (Nat.le_of_ble_eq_true rfl) dMo_add_52 (fun H locs hP hS => ?_)
    exact q_rv cx hr hP hS hQ h dMo_add_55
  have J32 : ∀ (v1 : Int32) (v2 : Int32) (u1 : Int32) (σ : Mem), f_Mo_add_J32 v1 v2 u1 σ = some ((), σ0) → ∀ (H : Heap) (locs : List Loc) (ls : Array Slot), lv_has ls 3 [(0, .ref (ad g 15)), (1, .int v1), (2, .int v2)] → Wd g σ H → va_S (wA g) s.heap H locs → W p l e R s m args below meth c H locs 0 0 Q (F0 m 32 ls [.int u1, .ref (ad g 15)]) := by
    intro v1 v2 u1 σ h H locs ls hl hP hS
    unfold f_Mo_add_J32 at h
    refine lv_iload_n hx hb dMo_add_32 rfl (lv_at hl 2 rfl) ?_
    refine lv_if_eq (tgt := 50) hx hb dMo_add_33 (by decide) (fun hc => ?_) (fun hc => ?_)
    · replace h := if_t h hc
      refine lv_iconst (v := 0) hx hb dMo_add_50 (by decide) ?_
      exact J51 _ _ _ _ _ h _ _ _ (lv_sub hl [0, 1, 2] rfl) hP hS
    · replace h := if_f h hc
      refine lv_aload_n hx hb dMo_add_36 rfl (lv_at hl 0 rfl) ?_
      refine g_Mo_firstNumber cx hP  t_561 dMo_add_37 ?_
      refine lv_iload_n hx hb dMo_add_40 rfl (lv_at hl 1 rfl) ?_
      obtain ⟨b3, h⟩ := gd_some h
      refine q_iald cx hP (by decide) (e_37 g) b3 dMo_add_41 ?_
      refine lv_aload_n hx hb dMo_add_42 rfl (lv_at hl 0 rfl) ?_
      refine g_Mo_worth cx hP  t_564 dMo_add_43 ?_
      refine lv_iadd hx hb dMo_add_46 ?_
      refine lv_goto (tgt := 51) hx hb dMo_add_47 (by decide) ?_
      exact J51 _ _ _ _ _ h _ _ _ (lv_sub hl [0, 1, 2] rfl) hP hS
  have J21 : ∀ (v1 : Int32) (u0 : Int32) (σ : Mem), f_Mo_add_J21 v1 u0 σ = some ((), σ0) → ∀ (H : Heap) (locs : List Loc) (ls : Array Slot), lv_has ls 3 [(0, .ref (ad g 15)), (1, .int v1)] → Wd g σ H → va_S (wA g) s.heap H locs → W p l e R s m args below meth c H locs 0 0 Q (F0 m 21 ls [.int u0]) := by
    intro v1 u0 σ h H locs ls hl hP hS
    unfold f_Mo_add_J21 at h
    refine lv_istore_n (lv' := [(2, .int u0), (0, .ref (ad g 15)), (1, .int v1)]) hx hb dMo_add_21 rfl hl (Nat.le_of_ble_eq_true rfl) rfl (fun ls hl => ?_)
    refine lv_aload_n hx hb dMo_add_22 rfl (lv_at hl 1 rfl) ?_
    refine lv_iload_n hx hb dMo_add_23 rfl (lv_at hl 0 rfl) ?_
    refine lv_if_eq (tgt := 31) hx hb dMo_add_24 (by decide) (fun hc => ?_) (fun hc => ?_)
    · replace h := if_t h hc
      refine lv_iconst (v := 2) hx hb dMo_add_31 (by decide) ?_
      exact J32 _ _ _ _ h _ _ _ (lv_sub hl [1, 2, 0] rfl) hP hS
    · replace h := if_f h hc
      refine lv_iconst (v := 0) hx hb dMo_add_27 (by decide) ?_
      refine lv_goto (tgt := 32) hx hb dMo_add_28 (by decide) ?_
      exact J32 _ _ _ _ h _ _ _ (lv_sub hl [1, 2, 0] rfl) hP hS
  have J20 : ∀ (v1 : Int32) (σ : Mem), f_Mo_add_J20 v1 σ = some ((), σ0) → ∀ (H : Heap) (locs : List Loc) (ls : Array Slot), lv_has ls 3 [(0, .ref (ad g 15)), (1, .int v1)] → Wd g σ H → va_S (wA g) s.heap H locs → W p l e R s m args below meth c H locs 0 0 Q (F0 m 20 ls []) := by
    intro v1 σ h H locs ls hl hP hS
    unfold f_Mo_add_J20 at h
    refine lv_iconst (v := 0) hx hb dMo_add_20 (by decide) ?_
    exact J21 _ _ _ h _ _ _ (lv_sub hl [0, 1] rfl) hP hS
  unfold f_Mo_add at h
  refine lv_aload_n hx hb dMo_add_0 rfl (lv_at hl 0 rfl) ?_
  refine g_Mo_sort cx hP  t_563 dMo_add_1 ?_
  refine lv_if_ne (tgt := 20) hx hb dMo_add_4 (by decide) (fun hc => ?_) (fun hc => ?_)
  · replace h := if_f h hc
    exact J20 _ _ h _ _ _ (lv_sub hl [0, 1] rfl) hP hS
  · replace h := if_t h hc
    refine lv_aload_n hx hb dMo_add_7 rfl (lv_at hl 0 rfl) ?_
    refine g_Mo_firstSort cx hP  t_560 dMo_add_8 ?_
    refine lv_iload_n hx hb dMo_add_11 rfl (lv_at hl 1 rfl) ?_
    obtain ⟨b4, h⟩ := gd_some h
    refine q_iald cx hP (by decide) (e_36 g) b4 dMo_add_12 ?_
    refine lv_if_ne (tgt := 20) hx hb dMo_add_13 (by decide) (fun hc => ?_) (fun hc => ?_)
    · replace h := if_f h hc
      exact J20 _ _ h _ _ _ (lv_sub hl [0, 1] rfl) hP hS
    · replace h := if_t h hc
      refine lv_iconst (v := 1) hx hb dMo_add_16 (by decide) ?_
      refine lv_goto (tgt := 21) hx hb dMo_add_17 (by decide) ?_
      exact J21 _ _ _ h _ _ _ (lv_sub hl [0, 1] rfl) hP hS
theorem dMo_run_0 : decode cMo_run 0 = .ok (.aload_n 0, 1) := by decide +kernel
theorem dMo_run_1 : decode cMo_run 1 = .ok (.invokevirtual 240, 3) := by decide +kernel
theorem dMo_run_4 : decode cMo_run 4 = .ok (.aload_n 0, 1) := by decide +kernel
theorem dMo_run_5 : decode cMo_run 5 = .ok (.iconst 0, 1) := by decide +kernel
theorem dMo_run_6 : decode cMo_run 6 = .ok (.putfield 246, 3) := by decide +kernel
theorem dMo_run_9 : decode cMo_run 9 = .ok (.aload_n 0, 1) := by decide +kernel
theorem dMo_run_10 : decode cMo_run 10 = .ok (.iconst 0, 1) := by decide +kernel
theorem dMo_run_11 : decode cMo_run 11 = .ok (.putfield 243, 3) := by decide +kernel
theorem dMo_run_14 : decode cMo_run 14 = .ok (.aload_n 0, 1) := by decide +kernel
theorem dMo_run_15 : decode cMo_run 15 = .ok (.iconst 0, 1) := by decide +kernel
theorem dMo_run_16 : decode cMo_run 16 = .ok (.putfield 262, 3) := by decide +kernel
theorem dMo_run_19 : decode cMo_run 19 = .ok (.aload_n 0, 1) := by decide +kernel
theorem dMo_run_20 : decode cMo_run 20 = .ok (.iconst 0, 1) := by decide +kernel
theorem dMo_run_21 : decode cMo_run 21 = .ok (.putfield 272, 3) := by decide +kernel
theorem dMo_run_24 : decode cMo_run 24 = .ok (.aload_n 0, 1) := by decide +kernel
theorem dMo_run_25 : decode cMo_run 25 = .ok (.iconst 0, 1) := by decide +kernel
theorem dMo_run_26 : decode cMo_run 26 = .ok (.iconst 0, 1) := by decide +kernel
theorem dMo_run_27 : decode cMo_run 27 = .ok (.invokevirtual 268, 3) := by decide +kernel
theorem dMo_run_30 : decode cMo_run 30 = .ok (.istore_n 1, 1) := by decide +kernel
theorem dMo_run_31 : decode cMo_run 31 = .ok (.iconst 0, 1) := by decide +kernel
theorem dMo_run_32 : decode cMo_run 32 = .ok (.istore_n 2, 1) := by decide +kernel
theorem dMo_run_33 : decode cMo_run 33 = .ok (.iload_n 1, 1) := by decide +kernel
theorem dMo_run_34 : decode cMo_run 34 = .ok (.ifCond .eq 240, 3) := by decide +kernel
theorem dMo_run_37 : decode cMo_run 37 = .ok (.aload_n 0, 1) := by decide +kernel
theorem dMo_run_38 : decode cMo_run 38 = .ok (.getfield 243, 3) := by decide +kernel
theorem dMo_run_41 : decode cMo_run 41 = .ok (.ifCond .le 233, 3) := by decide +kernel
theorem dMo_run_44 : decode cMo_run 44 = .ok (.aload_n 0, 1) := by decide +kernel
theorem dMo_run_45 : decode cMo_run 45 = .ok (.getfield 243, 3) := by decide +kernel
theorem dMo_run_48 : decode cMo_run 48 = .ok (.iconst 1, 1) := by decide +kernel
theorem dMo_run_49 : decode cMo_run 49 = .ok (.isub, 1) := by decide +kernel
theorem dMo_run_50 : decode cMo_run 50 = .ok (.istore_n 3, 1) := by decide +kernel
theorem dMo_run_51 : decode cMo_run 51 = .ok (.aload_n 0, 1) := by decide +kernel
theorem dMo_run_52 : decode cMo_run 52 = .ok (.getfield 66, 3) := by decide +kernel
theorem dMo_run_55 : decode cMo_run 55 = .ok (.iload_n 3, 1) := by decide +kernel
theorem dMo_run_56 : decode cMo_run 56 = .ok (.iaload, 1) := by decide +kernel
theorem dMo_run_57 : decode cMo_run 57 = .ok (.istore 4, 2) := by decide +kernel
theorem dMo_run_59 : decode cMo_run 59 = .ok (.iload_n 2, 1) := by decide +kernel
theorem dMo_run_60 : decode cMo_run 60 = .ok (.ifCond .ne 62, 3) := by decide +kernel
theorem dMo_run_63 : decode cMo_run 63 = .ok (.aload_n 0, 1) := by decide +kernel
theorem dMo_run_64 : decode cMo_run 64 = .ok (.iload_n 3, 1) := by decide +kernel
theorem dMo_run_65 : decode cMo_run 65 = .ok (.invokevirtual 275, 3) := by decide +kernel
theorem dMo_run_68 : decode cMo_run 68 = .ok (.istore_n 2, 1) := by decide +kernel
theorem dMo_run_69 : decode cMo_run 69 = .ok (.aload_n 0, 1) := by decide +kernel
theorem dMo_run_70 : decode cMo_run 70 = .ok (.getfield 69, 3) := by decide +kernel
theorem dMo_run_73 : decode cMo_run 73 = .ok (.iload_n 3, 1) := by decide +kernel
theorem dMo_run_74 : decode cMo_run 74 = .ok (.iconst 1, 1) := by decide +kernel
theorem dMo_run_75 : decode cMo_run 75 = .ok (.iastore, 1) := by decide +kernel
theorem dMo_run_76 : decode cMo_run 76 = .ok (.aload_n 0, 1) := by decide +kernel
theorem dMo_run_77 : decode cMo_run 77 = .ok (.iload_n 2, 1) := by decide +kernel
theorem dMo_run_78 : decode cMo_run 78 = .ok (.ifCond .eq 7, 3) := by decide +kernel
theorem dMo_run_81 : decode cMo_run 81 = .ok (.iload_n 3, 1) := by decide +kernel
theorem dMo_run_82 : decode cMo_run 82 = .ok (.goto 7, 3) := by decide +kernel
theorem dMo_run_85 : decode cMo_run 85 = .ok (.aload_n 0, 1) := by decide +kernel
theorem dMo_run_86 : decode cMo_run 86 = .ok (.getfield 243, 3) := by decide +kernel
theorem dMo_run_89 : decode cMo_run 89 = .ok (.putfield 243, 3) := by decide +kernel
theorem dMo_run_92 : decode cMo_run 92 = .ok (.iload_n 2, 1) := by decide +kernel
theorem dMo_run_93 : decode cMo_run 93 = .ok (.ifCond .ne 20, 3) := by decide +kernel
theorem dMo_run_96 : decode cMo_run 96 = .ok (.aload_n 0, 1) := by decide +kernel
theorem dMo_run_97 : decode cMo_run 97 = .ok (.iload 4, 2) := by decide +kernel
theorem dMo_run_99 : decode cMo_run 99 = .ok (.iconst 1, 1) := by decide +kernel
theorem dMo_run_100 : decode cMo_run 100 = .ok (.iadd, 1) := by decide +kernel
theorem dMo_run_101 : decode cMo_run 101 = .ok (.aload_n 0, 1) := by decide +kernel
theorem dMo_run_102 : decode cMo_run 102 = .ok (.getfield 72, 3) := by decide +kernel
theorem dMo_run_105 : decode cMo_run 105 = .ok (.iload_n 3, 1) := by decide +kernel
theorem dMo_run_106 : decode cMo_run 106 = .ok (.iaload, 1) := by decide +kernel
theorem dMo_run_107 : decode cMo_run 107 = .ok (.invokevirtual 268, 3) := by decide +kernel
theorem dMo_run_110 : decode cMo_run 110 = .ok (.ifCond .eq 7, 3) := by decide +kernel
theorem dMo_run_113 : decode cMo_run 113 = .ok (.iconst 1, 1) := by decide +kernel
theorem dMo_run_114 : decode cMo_run 114 = .ok (.goto 4, 3) := by decide +kernel
theorem dMo_run_117 : decode cMo_run 117 = .ok (.iconst 0, 1) := by decide +kernel
theorem dMo_run_118 : decode cMo_run 118 = .ok (.istore_n 1, 1) := by decide +kernel
theorem dMo_run_119 : decode cMo_run 119 = .ok (.goto 152, 3) := by decide +kernel
theorem dMo_run_122 : decode cMo_run 122 = .ok (.aload_n 0, 1) := by decide +kernel
theorem dMo_run_123 : decode cMo_run 123 = .ok (.getfield 69, 3) := by decide +kernel
theorem dMo_run_126 : decode cMo_run 126 = .ok (.iload_n 3, 1) := by decide +kernel
theorem dMo_run_127 : decode cMo_run 127 = .ok (.iaload, 1) := by decide +kernel
theorem dMo_run_128 : decode cMo_run 128 = .ok (.iconst 1, 1) := by decide +kernel
theorem dMo_run_129 : decode cMo_run 129 = .ok (.if_icmp .ne 26, 3) := by decide +kernel
theorem dMo_run_132 : decode cMo_run 132 = .ok (.aload_n 0, 1) := by decide +kernel
theorem dMo_run_133 : decode cMo_run 133 = .ok (.getfield 13, 3) := by decide +kernel
theorem dMo_run_136 : decode cMo_run 136 = .ok (.iload 4, 2) := by decide +kernel
theorem dMo_run_138 : decode cMo_run 138 = .ok (.iaload, 1) := by decide +kernel
theorem dMo_run_139 : decode cMo_run 139 = .ok (.bipush 6, 2) := by decide +kernel
theorem dMo_run_141 : decode cMo_run 141 = .ok (.if_icmp .eq 14, 3) := by decide +kernel
theorem dMo_run_144 : decode cMo_run 144 = .ok (.iconst 0, 1) := by decide +kernel
theorem dMo_run_145 : decode cMo_run 145 = .ok (.istore_n 2, 1) := by decide +kernel
theorem dMo_run_146 : decode cMo_run 146 = .ok (.aload_n 0, 1) := by decide +kernel
theorem dMo_run_147 : decode cMo_run 147 = .ok (.iload_n 3, 1) := by decide +kernel
theorem dMo_run_148 : decode cMo_run 148 = .ok (.invokevirtual 278, 3) := by decide +kernel
theorem dMo_run_151 : decode cMo_run 151 = .ok (.istore_n 1, 1) := by decide +kernel
theorem dMo_run_152 : decode cMo_run 152 = .ok (.goto 119, 3) := by decide +kernel
theorem dMo_run_155 : decode cMo_run 155 = .ok (.aload_n 0, 1) := by decide +kernel
theorem dMo_run_156 : decode cMo_run 156 = .ok (.getfield 69, 3) := by decide +kernel
theorem dMo_run_159 : decode cMo_run 159 = .ok (.iload_n 3, 1) := by decide +kernel
theorem dMo_run_160 : decode cMo_run 160 = .ok (.iaload, 1) := by decide +kernel
theorem dMo_run_161 : decode cMo_run 161 = .ok (.iconst 2, 1) := by decide +kernel
theorem dMo_run_162 : decode cMo_run 162 = .ok (.if_icmp .ne 58, 3) := by decide +kernel
theorem dMo_run_165 : decode cMo_run 165 = .ok (.aload_n 0, 1) := by decide +kernel
theorem dMo_run_166 : decode cMo_run 166 = .ok (.getfield 13, 3) := by decide +kernel
theorem dMo_run_169 : decode cMo_run 169 = .ok (.iload 4, 2) := by decide +kernel
theorem dMo_run_171 : decode cMo_run 171 = .ok (.iaload, 1) := by decide +kernel
theorem dMo_run_172 : decode cMo_run 172 = .ok (.iconst 4, 1) := by decide +kernel
theorem dMo_run_173 : decode cMo_run 173 = .ok (.if_icmp .ne 47, 3) := by decide +kernel
theorem dMo_run_176 : decode cMo_run 176 = .ok (.aload_n 0, 1) := by decide +kernel
theorem dMo_run_177 : decode cMo_run 177 = .ok (.getfield 75, 3) := by decide +kernel
theorem dMo_run_180 : decode cMo_run 180 = .ok (.iload_n 3, 1) := by decide +kernel
theorem dMo_run_181 : decode cMo_run 181 = .ok (.iaload, 1) := by decide +kernel
theorem dMo_run_182 : decode cMo_run 182 = .ok (.iconst 1, 1) := by decide +kernel
theorem dMo_run_183 : decode cMo_run 183 = .ok (.if_icmp .ne 37, 3) := by decide +kernel
theorem dMo_run_186 : decode cMo_run 186 = .ok (.iconst 0, 1) := by decide +kernel
theorem dMo_run_187 : decode cMo_run 187 = .ok (.istore_n 2, 1) := by decide +kernel
theorem dMo_run_188 : decode cMo_run 188 = .ok (.aload_n 0, 1) := by decide +kernel
theorem dMo_run_189 : decode cMo_run 189 = .ok (.getfield 69, 3) := by decide +kernel
theorem dMo_run_192 : decode cMo_run 192 = .ok (.iload_n 3, 1) := by decide +kernel
theorem dMo_run_193 : decode cMo_run 193 = .ok (.iconst 3, 1) := by decide +kernel
theorem dMo_run_194 : decode cMo_run 194 = .ok (.iastore, 1) := by decide +kernel
theorem dMo_run_195 : decode cMo_run 195 = .ok (.aload_n 0, 1) := by decide +kernel
theorem dMo_run_196 : decode cMo_run 196 = .ok (.iload_n 3, 1) := by decide +kernel
theorem dMo_run_197 : decode cMo_run 197 = .ok (.invokevirtual 281, 3) := by decide +kernel
theorem dMo_run_200 : decode cMo_run 200 = .ok (.istore 5, 2) := by decide +kernel
theorem dMo_run_202 : decode cMo_run 202 = .ok (.aload_n 0, 1) := by decide +kernel
theorem dMo_run_203 : decode cMo_run 203 = .ok (.aload_n 0, 1) := by decide +kernel
theorem dMo_run_204 : decode cMo_run 204 = .ok (.getfield 78, 3) := by decide +kernel
theorem dMo_run_207 : decode cMo_run 207 = .ok (.iload_n 3, 1) := by decide +kernel
theorem dMo_run_208 : decode cMo_run 208 = .ok (.iaload, 1) := by decide +kernel
theorem dMo_run_209 : decode cMo_run 209 = .ok (.iconst 1, 1) := by decide +kernel
theorem dMo_run_210 : decode cMo_run 210 = .ok (.iadd, 1) := by decide +kernel
theorem dMo_run_211 : decode cMo_run 211 = .ok (.iload 5, 2) := by decide +kernel
theorem dMo_run_213 : decode cMo_run 213 = .ok (.invokevirtual 268, 3) := by decide +kernel
theorem dMo_run_216 : decode cMo_run 216 = .ok (.istore_n 1, 1) := by decide +kernel
theorem dMo_run_217 : decode cMo_run 217 = .ok (.goto 54, 3) := by decide +kernel
theorem dMo_run_220 : decode cMo_run 220 = .ok (.aload_n 0, 1) := by decide +kernel
theorem dMo_run_221 : decode cMo_run 221 = .ok (.getfield 69, 3) := by decide +kernel
theorem dMo_run_224 : decode cMo_run 224 = .ok (.iload_n 3, 1) := by decide +kernel
theorem dMo_run_225 : decode cMo_run 225 = .ok (.iaload, 1) := by decide +kernel
theorem dMo_run_226 : decode cMo_run 226 = .ok (.iconst 2, 1) := by decide +kernel
theorem dMo_run_227 : decode cMo_run 227 = .ok (.if_icmp .ne 22, 3) := by decide +kernel
theorem dMo_run_230 : decode cMo_run 230 = .ok (.aload_n 0, 1) := by decide +kernel
theorem dMo_run_231 : decode cMo_run 231 = .ok (.getfield 13, 3) := by decide +kernel
theorem dMo_run_234 : decode cMo_run 234 = .ok (.iload 4, 2) := by decide +kernel
theorem dMo_run_236 : decode cMo_run 236 = .ok (.iaload, 1) := by decide +kernel
theorem dMo_run_237 : decode cMo_run 237 = .ok (.iconst 3, 1) := by decide +kernel
theorem dMo_run_238 : decode cMo_run 238 = .ok (.if_icmp .ne 11, 3) := by decide +kernel
theorem dMo_run_241 : decode cMo_run 241 = .ok (.aload_n 0, 1) := by decide +kernel
theorem dMo_run_242 : decode cMo_run 242 = .ok (.iload_n 3, 1) := by decide +kernel
theorem dMo_run_243 : decode cMo_run 243 = .ok (.invokevirtual 284, 3) := by decide +kernel
theorem dMo_run_246 : decode cMo_run 246 = .ok (.goto 20, 3) := by decide +kernel
theorem dMo_run_249 : decode cMo_run 249 = .ok (.aload_n 0, 1) := by decide +kernel
theorem dMo_run_250 : decode cMo_run 250 = .ok (.getfield 69, 3) := by decide +kernel
theorem dMo_run_253 : decode cMo_run 253 = .ok (.iload_n 3, 1) := by decide +kernel
theorem dMo_run_254 : decode cMo_run 254 = .ok (.iaload, 1) := by decide +kernel
theorem dMo_run_255 : decode cMo_run 255 = .ok (.iconst 2, 1) := by decide +kernel
theorem dMo_run_256 : decode cMo_run 256 = .ok (.if_icmp .ne 10, 3) := by decide +kernel
theorem dMo_run_259 : decode cMo_run 259 = .ok (.aload_n 0, 1) := by decide +kernel
theorem dMo_run_260 : decode cMo_run 260 = .ok (.iconst 2, 1) := by decide +kernel
theorem dMo_run_261 : decode cMo_run 261 = .ok (.iconst 0, 1) := by decide +kernel
theorem dMo_run_262 : decode cMo_run 262 = .ok (.iconst 0, 1) := by decide +kernel
theorem dMo_run_263 : decode cMo_run 263 = .ok (.invokevirtual 258, 3) := by decide +kernel
theorem dMo_run_266 : decode cMo_run 266 = .ok (.aload_n 0, 1) := by decide +kernel
theorem dMo_run_267 : decode cMo_run 267 = .ok (.iload_n 3, 1) := by decide +kernel
theorem dMo_run_268 : decode cMo_run 268 = .ok (.putfield 243, 3) := by decide +kernel
theorem dMo_run_271 : decode cMo_run 271 = .ok (.goto (-238), 3) := by decide +kernel
theorem dMo_run_274 : decode cMo_run 274 = .ok (.iload_n 1, 1) := by decide +kernel
theorem dMo_run_275 : decode cMo_run 275 = .ok (.ifCond .ne 5, 3) := by decide +kernel
theorem dMo_run_278 : decode cMo_run 278 = .ok (.iconst 3, 1) := by decide +kernel
theorem dMo_run_279 : decode cMo_run 279 = .ok (.ireturn, 1) := by decide +kernel
theorem dMo_run_280 : decode cMo_run 280 = .ok (.aload_n 0, 1) := by decide +kernel
theorem dMo_run_281 : decode cMo_run 281 = .ok (.aload_n 0, 1) := by decide +kernel
theorem dMo_run_282 : decode cMo_run 282 = .ok (.getfield 249, 3) := by decide +kernel
theorem dMo_run_285 : decode cMo_run 285 = .ok (.ifCond .ne 10, 3) := by decide +kernel
theorem dMo_run_288 : decode cMo_run 288 = .ok (.aload_n 0, 1) := by decide +kernel
theorem dMo_run_289 : decode cMo_run 289 = .ok (.getfield 252, 3) := by decide +kernel
theorem dMo_run_292 : decode cMo_run 292 = .ok (.goto 4, 3) := by decide +kernel
theorem dMo_run_295 : decode cMo_run 295 = .ok (.iconst 0, 1) := by decide +kernel
theorem dMo_run_296 : decode cMo_run 296 = .ok (.putfield 272, 3) := by decide +kernel
theorem dMo_run_299 : decode cMo_run 299 = .ok (.aload_n 0, 1) := by decide +kernel
theorem dMo_run_300 : decode cMo_run 300 = .ok (.getfield 249, 3) := by decide +kernel
theorem dMo_run_303 : decode cMo_run 303 = .ok (.ireturn, 1) := by decide +kernel
def f_Mo_run_J296  (v1 : Int32) (v2 : Int32) (u1 : Int32) (σ : Mem) : Option (Int32 × Mem) :=
  lt_ (sI σ 15 25 u1) fun (σ1 : Mem) =>
  some (σ1.1 15 33, σ1)
def f_Mo_run_J274  (v1 : Int32) (v2 : Int32) (σ : Mem) : Option (Int32 × Mem) :=
  if v1 = 0 then (
  some ((3 : Int32), σ))
  else (
  if (σ.1 15 33) = 0 then (
  f_Mo_run_J296 v1 v2 (σ.1 15 34) σ)
  else (
  f_Mo_run_J296 v1 v2 (0 : Int32) σ))
def f_Mo_run_J271  (v1 : Int32) (v2 : Int32) (v3 : Int32) (v4 : Int32) (σ : Mem) : Option ((Int32 × Int32 × Mem) ⊕ (Int32 × Mem)) :=
  some (.inl (v1, v2, σ))
def f_Mo_run_J266  (v1 : Int32) (v2 : Int32) (v3 : Int32) (v4 : Int32) (σ : Mem) : Option ((Int32 × Int32 × Mem) ⊕ (Int32 × Mem)) :=
  lt_ (sI σ 15 26 v3) fun (σ2 : Mem) =>
  f_Mo_run_J271 v1 v2 v3 v4 σ2
def f_Mo_run_J249  (v1 : Int32) (v2 : Int32) (v3 : Int32) (v4 : Int32) (σ : Mem) : Option ((Int32 × Int32 × Mem) ⊕ (Int32 × Mem)) :=
  gd (inb v3 61) (
  if (σ.1 34 v3.toNatClampNeg) = (2 : Int32) then (
  bn (f_Mo_value (2 : Int32) (0 : Int32) (0 : Int32) σ) fun (_ : Unit) (σ5 : Mem) =>
  f_Mo_run_J266 v1 v2 v3 v4 σ5)
  else (
  f_Mo_run_J266 v1 v2 v3 v4 σ))
def f_Mo_run_J220  (v1 : Int32) (v2 : Int32) (v3 : Int32) (v4 : Int32) (σ : Mem) : Option ((Int32 × Int32 × Mem) ⊕ (Int32 × Mem)) :=
  gd (inb v3 61) (
  if (σ.1 34 v3.toNatClampNeg) = (2 : Int32) then (
  gd (inb v4 48) (
  if (σ.1 16 v4.toNatClampNeg) = (3 : Int32) then (
  bn (f_Mo_add v3 σ) fun (_ : Unit) (σ9 : Mem) =>
  f_Mo_run_J266 v1 v2 v3 v4 σ9)
  else (
  f_Mo_run_J249 v1 v2 v3 v4 σ)))
  else (
  f_Mo_run_J249 v1 v2 v3 v4 σ))
def f_Mo_run_J155  (v1 : Int32) (v2 : Int32) (v3 : Int32) (v4 : Int32) (σ : Mem) : Option ((Int32 × Int32 × Mem) ⊕ (Int32 × Mem)) :=
  gd (inb v3 61) (
  if (σ.1 34 v3.toNatClampNeg) = (2 : Int32) then (
  gd (inb v4 48) (
  if (σ.1 16 v4.toNatClampNeg) = (4 : Int32) then (
  gd (inb v3 61) (
  if (σ.1 36 v3.toNatClampNeg) = (1 : Int32) then (
  lt_ (0 : Int32) fun (x13 : Int32) =>
  gd (inb v3 61) (lt_ (sI σ 34 v3.toNatClampNeg (3 : Int32)) fun (σ15 : Mem) =>
  bn (f_Mo_bind v3 σ15) fun (r18 : Int32) (σ17 : Mem) =>
  gd (inb v3 61) (
  bn (f_Mo_enter ((σ17.1 37 v3.toNatClampNeg) + (1 : Int32)) r18 σ17) fun (r22 : Int32) (σ21 : Mem) =>
  f_Mo_run_J271 r22 x13 v3 v4 σ21)))
  else (
  f_Mo_run_J220 v1 v2 v3 v4 σ)))
  else (
  f_Mo_run_J220 v1 v2 v3 v4 σ)))
  else (
  f_Mo_run_J220 v1 v2 v3 v4 σ))
def f_Mo_run_J118  (v1 : Int32) (v2 : Int32) (v3 : Int32) (v4 : Int32) (u0 : Int32) (σ : Mem) : Option ((Int32 × Int32 × Mem) ⊕ (Int32 × Mem)) :=
  f_Mo_run_J271 u0 v2 v3 v4 σ
def f_Mo_run_J113  (v1 : Int32) (v2 : Int32) (v3 : Int32) (v4 : Int32) (σ : Mem) : Option ((Int32 × Int32 × Mem) ⊕ (Int32 × Mem)) :=
  f_Mo_run_J118 v1 v2 v3 v4 (1 : Int32) σ
def f_Mo_run_J89  (v1 : Int32) (v2 : Int32) (v3 : Int32) (v4 : Int32) (u1 : Int32) (σ : Mem) : Option ((Int32 × Int32 × Mem) ⊕ (Int32 × Mem)) :=
  lt_ (sI σ 15 26 u1) fun (σ23 : Mem) =>
  if v2 = 0 then (
  gd (inb v3 61) (
  bn (f_Mo_enter (v4 + (1 : Int32)) (σ23.1 35 v3.toNatClampNeg) σ23) fun (r27 : Int32) (σ26 : Mem) =>
  if r27 = 0 then (
  f_Mo_run_J118 v1 v2 v3 v4 (0 : Int32) σ26)
  else (
  f_Mo_run_J113 v1 v2 v3 v4 σ26)))
  else (
  f_Mo_run_J113 v1 v2 v3 v4 σ23)
def f_Mo_run_L33   (v1 : Int32) (v2 : Int32) (σ : Mem) : Option ((Int32 × Int32 × Mem) ⊕ (Int32 × Mem)) :=
  if v1 = 0 then (
  inrM (f_Mo_run_J274 v1 v2 σ))
  else (
  if (σ.1 15 26) ≤ 0 then (
  inrM (f_Mo_run_J274 v1 v2 σ))
  else (
  lt_ ((σ.1 15 26) - (1 : Int32)) fun (x30 : Int32) =>
  gd (inb x30 61) (
  lt_ (σ.1 33 x30.toNatClampNeg) fun (x32 : Int32) =>
  if v2 = 0 then (
  bn (f_Mo_isDone x30 σ) fun (r41 : Int32) (σ40 : Mem) =>
  gd (inb x30 61) (lt_ (sI σ40 34 x30.toNatClampNeg (1 : Int32)) fun (σ43 : Mem) =>
  if r41 = 0 then (
  f_Mo_run_J89 v1 r41 x30 x32 (σ43.1 15 26) σ43)
  else (
  f_Mo_run_J89 v1 r41 x30 x32 x30 σ43)))
  else (
  gd (inb x30 61) (
  if (σ.1 34 x30.toNatClampNeg) = (1 : Int32) then (
  gd (inb x32 48) (
  if (σ.1 16 x32.toNatClampNeg) = (6 : Int32) then (
  f_Mo_run_J155 v1 v2 x30 x32 σ)
  else (
  lt_ (0 : Int32) fun (x35 : Int32) =>
  bn (f_Mo_second x30 σ) fun (r38 : Int32) (σ37 : Mem) =>
  f_Mo_run_J271 r38 x35 x30 x32 σ37)))
  else (
  f_Mo_run_J155 v1 v2 x30 x32 σ))))))
def f_Mo_run   (σ : Mem) : Option (Int32 × Mem) :=
  bn (f_Mo_type σ) fun (_ : Unit) (σ45 : Mem) =>
  lt_ (sI σ45 15 24 (0 : Int32)) fun (σ46 : Mem) =>
  lt_ (sI σ46 15 26 (0 : Int32)) fun (σ47 : Mem) =>
  lt_ (sI σ47 15 36 (0 : Int32)) fun (σ48 : Mem) =>
  lt_ (sI σ48 15 25 (0 : Int32)) fun (σ49 : Mem) =>
  bn (f_Mo_enter (0 : Int32) (0 : Int32) σ49) fun (r52 : Int32) (σ51 : Mem) =>
  lt_ (0 : Int32) fun (x53 : Int32) =>
  loopF (fun (q : (Int32 × Int32 × Mem)) => f_Mo_run_L33 q.1 q.2.1 q.2.2) FU (r52, x53, σ51)
set_option maxHeartbeats 4000000 in
set_option maxRecDepth 100000 in
theorem c_Mo_run (l : Launch) (g : Gw) (hg : wInj g) {r0 : Int32} {σ σ0 : Mem} (h : f_Mo_run σ = some (r0, σ0)) : KI l yMo_run cMo_run 6 (some .int) 5 g [.ref (ad g 15)] σ r0 σ0 := by
  refine q_met g hg (own := "TermBenchModel") rfl rfl (Nat.le_of_ble_eq_true rfl) (fun p e s m args below meth c R Q cx hRk hr hQ H locs ls hP hS hl => ?_)
  have hx := cx.1
  have hb := cx.2.1
  have hown := cx.2.2.2.1
  have hts := cx.2.2.2.2.1
  have hl : lv_has ls 6 [(0, .ref (ad g 15))] := hl
  have J296 : ∀ (v1 : Int32) (v2 : Int32) (u1 : Int32) (σ : Mem), f_Mo_run_J296 v1 v2 u1 σ = some (r0, σ0) → ∀ (H : Heap) (locs : List Loc) (ls : Array Slot), lv_has ls 6 [(0, .ref (ad g 15)), (1, .int v1), (2, .int v2)] → Wd g σ H → va_S (wA g) s.heap H locs → W p l e R s m args below meth c H locs 0 0 Q (F0 m 296 ls [.int u1, .ref (ad g 15)]) := by
    intro v1 v2 u1 σ h H locs ls hl hP hS
    unfold f_Mo_run_J296 at h
    obtain ⟨σ1, eσ1, h⟩ := lt_some h
    refine p_Mo_number cx hP hS t_555 dMo_run_296 eσ1 (fun H locs hP hS => ?_)
    refine lv_aload_n hx hb dMo_run_299 rfl (lv_at hl 0 rfl) ?_
    refine g_Mo_sort cx hP  t_563 dMo_run_300 ?_
    exact q_ri cx hr rfl hP hS hQ h dMo_run_303
  have J274 : ∀ (v1 : Int32) (v2 : Int32) (σ : Mem), f_Mo_run_J274 v1 v2 σ = some (r0, σ0) → ∀ (H : Heap) (locs : List Loc) (ls : Array Slot), lv_has ls 6 [(0, .ref (ad g 15)), (1, .int v1), (2, .int v2)] → Wd g σ H → va_S (wA g) s.heap H locs → W p l e R s m args below meth c H locs 0 0 Q (F0 m 274 ls []) := by
    intro v1 v2 σ h H locs ls hl hP hS
    unfold f_Mo_run_J274 at h
    refine lv_iload_n hx hb dMo_run_274 rfl (lv_at hl 1 rfl) ?_
    refine lv_if_ne (tgt := 280) hx hb dMo_run_275 (by decide) (fun hc => ?_) (fun hc => ?_)
    · replace h := if_f h hc
      refine lv_aload_n hx hb dMo_run_280 rfl (lv_at hl 0 rfl) ?_
      refine lv_aload_n hx hb dMo_run_281 rfl (lv_at hl 0 rfl) ?_
      refine g_Mo_sort cx hP  t_563 dMo_run_282 ?_
      refine lv_if_ne (tgt := 295) hx hb dMo_run_285 (by decide) (fun hc => ?_) (fun hc => ?_)
      · replace h := if_f h hc
        refine lv_iconst (v := 0) hx hb dMo_run_295 (by decide) ?_
        exact J296 _ _ _ _ h _ _ _ (lv_sub hl [0, 1, 2] rfl) hP hS
      · replace h := if_t h hc
        refine lv_aload_n hx hb dMo_run_288 rfl (lv_at hl 0 rfl) ?_
        refine g_Mo_worth cx hP  t_564 dMo_run_289 ?_
        refine lv_goto (tgt := 296) hx hb dMo_run_292 (by decide) ?_
        exact J296 _ _ _ _ h _ _ _ (lv_sub hl [0, 1, 2] rfl) hP hS
    · replace h := if_t h hc
      refine lv_iconst (v := 3) hx hb dMo_run_278 (by decide) ?_
      exact q_ri cx hr rfl hP hS hQ h dMo_run_279
  unfold f_Mo_run at h
  refine lv_aload_n hx hb dMo_run_0 rfl (lv_at hl 0 rfl) ?_
  obtain ⟨rh44, σ45, h44, h⟩ := bn_some h
  refine q_cVv (rest := []) (As := []) cx hP hS hRk (c_Mo_type l g hg h44) Y_Mo_type V_Mo_type t_818 (by decide) (by decide) (e_15 g _ _) rfl rfl hl.1 rfl (Nat.le_of_ble_eq_true rfl) dMo_run_1 (fun H locs hP hS => ?_)
  refine lv_aload_n hx hb dMo_run_4 rfl (lv_at hl 0 rfl) ?_
  refine lv_iconst (v := 0) hx hb dMo_run_5 (by decide) ?_
  obtain ⟨σ46, eσ46, h⟩ := lt_some h
  refine p_Mo_units cx hP hS t_554 dMo_run_6 eσ46 (fun H locs hP hS => ?_)
  refine lv_aload_n hx hb dMo_run_9 rfl (lv_at hl 0 rfl) ?_
  refine lv_iconst (v := 0) hx hb dMo_run_10 (by decide) ?_
  obtain ⟨σ47, eσ47, h⟩ := lt_some h
  refine p_Mo_running cx hP hS t_556 dMo_run_11 eσ47 (fun H locs hP hS => ?_)
  refine lv_aload_n hx hb dMo_run_14 rfl (lv_at hl 0 rfl) ?_
  refine lv_iconst (v := 0) hx hb dMo_run_15 (by decide) ?_
  obtain ⟨σ48, eσ48, h⟩ := lt_some h
  refine p_Mo_bound cx hP hS t_566 dMo_run_16 eσ48 (fun H locs hP hS => ?_)
  refine lv_aload_n hx hb dMo_run_19 rfl (lv_at hl 0 rfl) ?_
  refine lv_iconst (v := 0) hx hb dMo_run_20 (by decide) ?_
  obtain ⟨σ49, eσ49, h⟩ := lt_some h
  refine p_Mo_number cx hP hS t_555 dMo_run_21 eσ49 (fun H locs hP hS => ?_)
  refine lv_aload_n hx hb dMo_run_24 rfl (lv_at hl 0 rfl) ?_
  refine lv_iconst (v := 0) hx hb dMo_run_25 (by decide) ?_
  refine lv_iconst (v := 0) hx hb dMo_run_26 (by decide) ?_
  obtain ⟨r52, σ51, h50, h⟩ := bn_some h
  refine q_cVi (rest := []) (As := [.int (0 : Int32), .int (0 : Int32)]) cx hP hS hRk (c_Mo_enter l g hg h50) Y_Mo_enter V_Mo_enter t_881 (by decide) (by decide) (e_15 g _ _) rfl rfl hl.1 rfl (Nat.le_of_ble_eq_true rfl) dMo_run_27 (fun H locs hP hS => ?_)
  refine lv_istore_n (lv' := [(1, .int r52), (0, .ref (ad g 15))]) hx hb dMo_run_30 rfl hl (Nat.le_of_ble_eq_true rfl) rfl (fun ls hl => ?_)
  refine lv_iconst (v := 0) hx hb dMo_run_31 (by decide) ?_
  obtain ⟨x53, ex53, h⟩ := lt_some h
  refine q_nmi ex53 ?_
  refine lv_istore_n (lv' := [(2, .int x53), (1, .int r52), (0, .ref (ad g 15))]) hx hb dMo_run_32 rfl hl (Nat.le_of_ble_eq_true rfl) rfl (fun ls hl => ?_)
  have L33 : ∀ (n : Nat) (v1 : Int32) (v2 : Int32) (σ : Mem), loopF (fun (q : (Int32 × Int32 × Mem)) => f_Mo_run_L33 q.1 q.2.1 q.2.2) n (v1, v2, σ) = some (r0, σ0) → ∀ (H : Heap) (locs : List Loc) (ls : Array Slot), lv_has ls 6 [(0, .ref (ad g 15)), (1, .int v1), (2, .int v2)] → Wd g σ H → va_S (wA g) s.heap H locs → W p l e R s m args below meth c H locs 0 0 Q (F0 m 33 ls []) := by
    intro n
    induction n with
    | zero => intro v1 v2 σ h; exact (loopF_zero h).elim
    | succ n ih33 =>
      intro v1 v2 σ h H locs ls hl hP hS
      obtain ⟨o33, h, K33, E33⟩ := loopF_succ h
      have h : f_Mo_run_L33 v1 v2 σ = some o33 := h
      have J271 : ∀ (v1 : Int32) (v2 : Int32) (v3 : Int32) (v4 : Int32) (σ : Mem), f_Mo_run_J271 v1 v2 v3 v4 σ = some o33 → ∀ (H : Heap) (locs : List Loc) (ls : Array Slot), lv_has ls 6 [(0, .ref (ad g 15)), (1, .int v1), (2, .int v2), (3, .int v3), (4, .int v4)] → Wd g σ H → va_S (wA g) s.heap H locs → W p l e R s m args below meth c H locs 0 0 Q (F0 m 271 ls []) := by
        intro v1 v2 v3 v4 σ h H locs ls hl hP hS
        unfold f_Mo_run_J271 at h
        refine lv_goto (tgt := 33) hx hb dMo_run_271 (by decide) ?_
        exact ih33 _ _ _ (K33 _ (Option.some.inj h).symm) _ _ _ (lv_sub hl [0, 1, 2] rfl) hP hS
      have J266 : ∀ (v1 : Int32) (v2 : Int32) (v3 : Int32) (v4 : Int32) (σ : Mem), f_Mo_run_J266 v1 v2 v3 v4 σ = some o33 → ∀ (H : Heap) (locs : List Loc) (ls : Array Slot), lv_has ls 6 [(0, .ref (ad g 15)), (1, .int v1), (2, .int v2), (3, .int v3), (4, .int v4)] → Wd g σ H → va_S (wA g) s.heap H locs → W p l e R s m args below meth c H locs 0 0 Q (F0 m 266 ls []) := by
        intro v1 v2 v3 v4 σ h H locs ls hl hP hS
        unfold f_Mo_run_J266 at h
        refine lv_aload_n hx hb dMo_run_266 rfl (lv_at hl 0 rfl) ?_
        refine lv_iload_n hx hb dMo_run_267 rfl (lv_at hl 3 rfl) ?_
        obtain ⟨σ2, eσ2, h⟩ := lt_some h
        refine p_Mo_running cx hP hS t_556 dMo_run_268 eσ2 (fun H locs hP hS => ?_)
        exact J271 _ _ _ _ _ h _ _ _ (lv_sub hl [0, 1, 2, 3, 4] rfl) hP hS
      have J249 : ∀ (v1 : Int32) (v2 : Int32) (v3 : Int32) (v4 : Int32) (σ : Mem), f_Mo_run_J249 v1 v2 v3 v4 σ = some o33 → ∀ (H : Heap) (locs : List Loc) (ls : Array Slot), lv_has ls 6 [(0, .ref (ad g 15)), (1, .int v1), (2, .int v2), (3, .int v3), (4, .int v4)] → Wd g σ H → va_S (wA g) s.heap H locs → W p l e R s m args below meth c H locs 0 0 Q (F0 m 249 ls []) := by
        intro v1 v2 v3 v4 σ h H locs ls hl hP hS
        unfold f_Mo_run_J249 at h
        refine lv_aload_n hx hb dMo_run_249 rfl (lv_at hl 0 rfl) ?_
        refine g_Mo_stage cx hP  t_558 dMo_run_250 ?_
        refine lv_iload_n hx hb dMo_run_253 rfl (lv_at hl 3 rfl) ?_
        obtain ⟨b3, h⟩ := gd_some h
        refine q_iald cx hP (by decide) (e_34 g) b3 dMo_run_254 ?_
        refine lv_iconst (v := 2) hx hb dMo_run_255 (by decide) ?_
        refine lv_icmp_ne (tgt := 266) hx hb dMo_run_256 (by decide) (fun hc => ?_) (fun hc => ?_)
        · replace h := if_f h hc
          exact J266 _ _ _ _ _ h _ _ _ (lv_sub hl [0, 1, 2, 3, 4] rfl) hP hS
        · replace h := if_t h hc
          refine lv_aload_n hx hb dMo_run_259 rfl (lv_at hl 0 rfl) ?_
          refine lv_iconst (v := 2) hx hb dMo_run_260 (by decide) ?_
          refine lv_iconst (v := 0) hx hb dMo_run_261 (by decide) ?_
          refine lv_iconst (v := 0) hx hb dMo_run_262 (by decide) ?_
          obtain ⟨rh4, σ5, h4, h⟩ := bn_some h
          refine q_cVv (rest := []) (As := [.int (2 : Int32), .int (0 : Int32), .int (0 : Int32)]) cx hP hS hRk (c_Mo_value l g hg h4) Y_Mo_value V_Mo_value t_889 (by decide) (by decide) (e_15 g _ _) rfl rfl hl.1 rfl (Nat.le_of_ble_eq_true rfl) dMo_run_263 (fun H locs hP hS => ?_)
          exact J266 _ _ _ _ _ h _ _ _ (lv_sub hl [0, 1, 2, 3, 4] rfl) hP hS
      have J220 : ∀ (v1 : Int32) (v2 : Int32) (v3 : Int32) (v4 : Int32) (σ : Mem), f_Mo_run_J220 v1 v2 v3 v4 σ = some o33 → ∀ (H : Heap) (locs : List Loc) (ls : Array Slot), lv_has ls 6 [(0, .ref (ad g 15)), (1, .int v1), (2, .int v2), (3, .int v3), (4, .int v4)] → Wd g σ H → va_S (wA g) s.heap H locs → W p l e R s m args below meth c H locs 0 0 Q (F0 m 220 ls []) := by
        intro v1 v2 v3 v4 σ h H locs ls hl hP hS
        unfold f_Mo_run_J220 at h
        refine lv_aload_n hx hb dMo_run_220 rfl (lv_at hl 0 rfl) ?_
        refine g_Mo_stage cx hP  t_558 dMo_run_221 ?_
        refine lv_iload_n hx hb dMo_run_224 rfl (lv_at hl 3 rfl) ?_
        obtain ⟨b6, h⟩ := gd_some h
        refine q_iald cx hP (by decide) (e_34 g) b6 dMo_run_225 ?_
        refine lv_iconst (v := 2) hx hb dMo_run_226 (by decide) ?_
        refine lv_icmp_ne (tgt := 249) hx hb dMo_run_227 (by decide) (fun hc => ?_) (fun hc => ?_)
        · replace h := if_f h hc
          exact J249 _ _ _ _ _ h _ _ _ (lv_sub hl [0, 1, 2, 3, 4] rfl) hP hS
        · replace h := if_t h hc
          refine lv_aload_n hx hb dMo_run_230 rfl (lv_at hl 0 rfl) ?_
          refine g_Mo_kinds cx hP  t_532 dMo_run_231 ?_
          refine lv_iload hx hb dMo_run_234 (lv_at hl 4 rfl) ?_
          obtain ⟨b7, h⟩ := gd_some h
          refine q_iald cx hP (by decide) (e_16 g) b7 dMo_run_236 ?_
          refine lv_iconst (v := 3) hx hb dMo_run_237 (by decide) ?_
          refine lv_icmp_ne (tgt := 249) hx hb dMo_run_238 (by decide) (fun hc => ?_) (fun hc => ?_)
          · replace h := if_f h hc
            exact J249 _ _ _ _ _ h _ _ _ (lv_sub hl [0, 1, 2, 3, 4] rfl) hP hS
          · replace h := if_t h hc
            refine lv_aload_n hx hb dMo_run_241 rfl (lv_at hl 0 rfl) ?_
            refine lv_iload_n hx hb dMo_run_242 rfl (lv_at hl 3 rfl) ?_
            obtain ⟨rh8, σ9, h8, h⟩ := bn_some h
            refine q_cVv (rest := []) (As := [.int v3]) cx hP hS hRk (c_Mo_add l g hg h8) Y_Mo_add V_Mo_add t_905 (by decide) (by decide) (e_15 g _ _) rfl rfl hl.1 rfl (Nat.le_of_ble_eq_true rfl) dMo_run_243 (fun H locs hP hS => ?_)
            refine lv_goto (tgt := 266) hx hb dMo_run_246 (by decide) ?_
            exact J266 _ _ _ _ _ h _ _ _ (lv_sub hl [0, 1, 2, 3, 4] rfl) hP hS
      have J155 : ∀ (v1 : Int32) (v2 : Int32) (v3 : Int32) (v4 : Int32) (σ : Mem), f_Mo_run_J155 v1 v2 v3 v4 σ = some o33 → ∀ (H : Heap) (locs : List Loc) (ls : Array Slot), lv_has ls 6 [(0, .ref (ad g 15)), (1, .int v1), (2, .int v2), (3, .int v3), (4, .int v4)] → Wd g σ H → va_S (wA g) s.heap H locs → W p l e R s m args below meth c H locs 0 0 Q (F0 m 155 ls []) := by
        intro v1 v2 v3 v4 σ h H locs ls hl hP hS
        unfold f_Mo_run_J155 at h
        refine lv_aload_n hx hb dMo_run_155 rfl (lv_at hl 0 rfl) ?_
        refine g_Mo_stage cx hP  t_558 dMo_run_156 ?_
        refine lv_iload_n hx hb dMo_run_159 rfl (lv_at hl 3 rfl) ?_
        obtain ⟨b10, h⟩ := gd_some h
        refine q_iald cx hP (by decide) (e_34 g) b10 dMo_run_160 ?_
        refine lv_iconst (v := 2) hx hb dMo_run_161 (by decide) ?_
        refine lv_icmp_ne (tgt := 220) hx hb dMo_run_162 (by decide) (fun hc => ?_) (fun hc => ?_)
        · replace h := if_f h hc
          exact J220 _ _ _ _ _ h _ _ _ (lv_sub hl [0, 1, 2, 3, 4] rfl) hP hS
        · replace h := if_t h hc
          refine lv_aload_n hx hb dMo_run_165 rfl (lv_at hl 0 rfl) ?_
          refine g_Mo_kinds cx hP  t_532 dMo_run_166 ?_
          refine lv_iload hx hb dMo_run_169 (lv_at hl 4 rfl) ?_
          obtain ⟨b11, h⟩ := gd_some h
          refine q_iald cx hP (by decide) (e_16 g) b11 dMo_run_171 ?_
          refine lv_iconst (v := 4) hx hb dMo_run_172 (by decide) ?_
          refine lv_icmp_ne (tgt := 220) hx hb dMo_run_173 (by decide) (fun hc => ?_) (fun hc => ?_)
          · replace h := if_f h hc
            exact J220 _ _ _ _ _ h _ _ _ (lv_sub hl [0, 1, 2, 3, 4] rfl) hP hS
          · replace h := if_t h hc
            refine lv_aload_n hx hb dMo_run_176 rfl (lv_at hl 0 rfl) ?_
            refine g_Mo_firstSort cx hP  t_560 dMo_run_177 ?_
            refine lv_iload_n hx hb dMo_run_180 rfl (lv_at hl 3 rfl) ?_
            obtain ⟨b12, h⟩ := gd_some h
            refine q_iald cx hP (by decide) (e_36 g) b12 dMo_run_181 ?_
            refine lv_iconst (v := 1) hx hb dMo_run_182 (by decide) ?_
            refine lv_icmp_ne (tgt := 220) hx hb dMo_run_183 (by decide) (fun hc => ?_) (fun hc => ?_)
            · replace h := if_f h hc
              exact J220 _ _ _ _ _ h _ _ _ (lv_sub hl [0, 1, 2, 3, 4] rfl) hP hS
            · replace h := if_t h hc
              refine lv_iconst (v := 0) hx hb dMo_run_186 (by decide) ?_
              obtain ⟨x13, ex13, h⟩ := lt_some h
              refine q_nmi ex13 ?_
              refine lv_istore_n (lv' := [(2, .int x13), (0, .ref (ad g 15)), (1, .int v1), (3, .int v3), (4, .int v4)]) hx hb dMo_run_187 rfl hl (Nat.le_of_ble_eq_true rfl) rfl (fun ls hl => ?_)
              refine lv_aload_n hx hb dMo_run_188 rfl (lv_at hl 1 rfl) ?_
              refine g_Mo_stage cx hP  t_558 dMo_run_189 ?_
              refine lv_iload_n hx hb dMo_run_192 rfl (lv_at hl 3 rfl) ?_
              refine lv_iconst (v := 3) hx hb dMo_run_193 (by decide) ?_
              obtain ⟨b14, h⟩ := gd_some h
              obtain ⟨σ15, eσ15, h⟩ := lt_some h
              refine q_iast cx hP hS (by decide) (e_34 g) b14 dMo_run_194 eσ15 (fun H locs hP hS => ?_)
              refine lv_aload_n hx hb dMo_run_195 rfl (lv_at hl 1 rfl) ?_
              refine lv_iload_n hx hb dMo_run_196 rfl (lv_at hl 3 rfl) ?_
              obtain ⟨r18, σ17, h16, h⟩ := bn_some h
              refine q_cVi (rest := []) (As := [.int v3]) cx hP hS hRk (c_Mo_bind l g hg h16) Y_Mo_bind V_Mo_bind t_901 (by decide) (by decide) (e_15 g _ _) rfl rfl hl.1 rfl (Nat.le_of_ble_eq_true rfl) dMo_run_197 (fun H locs hP hS => ?_)
              refine lv_istore (lv' := [(5, .int r18), (2, .int x13), (0, .ref (ad g 15)), (1, .int v1), (3, .int v3), (4, .int v4)]) hx hb dMo_run_200 hl (Nat.le_of_ble_eq_true rfl) rfl (fun ls hl => ?_)
              refine lv_aload_n hx hb dMo_run_202 rfl (lv_at hl 2 rfl) ?_
              refine lv_aload_n hx hb dMo_run_203 rfl (lv_at hl 2 rfl) ?_
              refine g_Mo_firstNumber cx hP  t_561 dMo_run_204 ?_
              refine lv_iload_n hx hb dMo_run_207 rfl (lv_at hl 4 rfl) ?_
              obtain ⟨b19, h⟩ := gd_some h
              refine q_iald cx hP (by decide) (e_37 g) b19 dMo_run_208 ?_
              refine lv_iconst (v := 1) hx hb dMo_run_209 (by decide) ?_
              refine lv_iadd hx hb dMo_run_210 ?_
              refine lv_iload hx hb dMo_run_211 (lv_at hl 0 rfl) ?_
              obtain ⟨r22, σ21, h20, h⟩ := bn_some h
              refine q_cVi (rest := []) (As := [.int ((σ17.1 37 v3.toNatClampNeg) + (1 : Int32)), .int r18]) cx hP hS hRk (c_Mo_enter l g hg h20) Y_Mo_enter V_Mo_enter t_881 (by decide) (by decide) (e_15 g _ _) rfl rfl hl.1 rfl (Nat.le_of_ble_eq_true rfl) dMo_run_213 (fun H locs hP hS => ?_)
              refine lv_istore_n (lv' := [(1, .int r22), (5, .int r18), (2, .int x13), (0, .ref (ad g 15)), (3, .int v3), (4, .int v4)]) hx hb dMo_run_216 rfl hl (Nat.le_of_ble_eq_true rfl) rfl (fun ls hl => ?_)
              refine lv_goto (tgt := 271) hx hb dMo_run_217 (by decide) ?_
              exact J271 _ _ _ _ _ h _ _ _ (lv_sub hl [3, 0, 2, 4, 5] rfl) hP hS
      have J118 : ∀ (v1 : Int32) (v2 : Int32) (v3 : Int32) (v4 : Int32) (u0 : Int32) (σ : Mem), f_Mo_run_J118 v1 v2 v3 v4 u0 σ = some o33 → ∀ (H : Heap) (locs : List Loc) (ls : Array Slot), lv_has ls 6 [(0, .ref (ad g 15)), (1, .int v1), (2, .int v2), (3, .int v3), (4, .int v4)] → Wd g σ H → va_S (wA g) s.heap H locs → W p l e R s m args below meth c H locs 0 0 Q (F0 m 118 ls [.int u0]) := by
        intro v1 v2 v3 v4 u0 σ h H locs ls hl hP hS
        unfold f_Mo_run_J118 at h
        refine lv_istore_n (lv' := [(1, .int u0), (0, .ref (ad g 15)), (2, .int v2), (3, .int v3), (4, .int v4)]) hx hb dMo_run_118 rfl hl (Nat.le_of_ble_eq_true rfl) rfl (fun ls hl => ?_)
        refine lv_goto (tgt := 271) hx hb dMo_run_119 (by decide) ?_
        exact J271 _ _ _ _ _ h _ _ _ (lv_sub hl [1, 0, 2, 3, 4] rfl) hP hS
      have J113 : ∀ (v1 : Int32) (v2 : Int32) (v3 : Int32) (v4 : Int32) (σ : Mem), f_Mo_run_J113 v1 v2 v3 v4 σ = some o33 → ∀ (H : Heap) (locs : List Loc) (ls : Array Slot), lv_has ls 6 [(0, .ref (ad g 15)), (1, .int v1), (2, .int v2), (3, .int v3), (4, .int v4)] → Wd g σ H → va_S (wA g) s.heap H locs → W p l e R s m args below meth c H locs 0 0 Q (F0 m 113 ls []) := by
        intro v1 v2 v3 v4 σ h H locs ls hl hP hS
        unfold f_Mo_run_J113 at h
        refine lv_iconst (v := 1) hx hb dMo_run_113 (by decide) ?_
        refine lv_goto (tgt := 118) hx hb dMo_run_114 (by decide) ?_
        exact J118 _ _ _ _ _ _ h _ _ _ (lv_sub hl [0, 1, 2, 3, 4] rfl) hP hS
      have J89 : ∀ (v1 : Int32) (v2 : Int32) (v3 : Int32) (v4 : Int32) (u1 : Int32) (σ : Mem), f_Mo_run_J89 v1 v2 v3 v4 u1 σ = some o33 → ∀ (H : Heap) (locs : List Loc) (ls : Array Slot), lv_has ls 6 [(0, .ref (ad g 15)), (1, .int v1), (2, .int v2), (3, .int v3), (4, .int v4)] → Wd g σ H → va_S (wA g) s.heap H locs → W p l e R s m args below meth c H locs 0 0 Q (F0 m 89 ls [.int u1, .ref (ad g 15)]) := by
        intro v1 v2 v3 v4 u1 σ h H locs ls hl hP hS
        unfold f_Mo_run_J89 at h
        obtain ⟨σ23, eσ23, h⟩ := lt_some h
        refine p_Mo_running cx hP hS t_556 dMo_run_89 eσ23 (fun H locs hP hS => ?_)
        refine lv_iload_n hx hb dMo_run_92 rfl (lv_at hl 2 rfl) ?_
        refine lv_if_ne (tgt := 113) hx hb dMo_run_93 (by decide) (fun hc => ?_) (fun hc => ?_)
        · replace h := if_f h hc
          exact J113 _ _ _ _ _ h _ _ _ (lv_sub hl [0, 1, 2, 3, 4] rfl) hP hS
        · replace h := if_t h hc
          refine lv_aload_n hx hb dMo_run_96 rfl (lv_at hl 0 rfl) ?_
          refine lv_iload hx hb dMo_run_97 (lv_at hl 4 rfl) ?_
          refine lv_iconst (v := 1) hx hb dMo_run_99 (by decide) ?_
          refine lv_iadd hx hb dMo_run_100 ?_
          refine lv_aload_n hx hb dMo_run_101 rfl (lv_at hl 0 rfl) ?_
          refine g_Mo_names cx hP  t_559 dMo_run_102 ?_
          refine lv_iload_n hx hb dMo_run_105 rfl (lv_at hl 3 rfl) ?_
          obtain ⟨b24, h⟩ := gd_some h
          refine q_iald cx hP (by decide) (e_35 g) b24 dMo_run_106 ?_
          obtain ⟨r27, σ26, h25, h⟩ := bn_some h
          refine q_cVi (rest := []) (As := [.int (v4 + (1 : Int32)), .int (σ23.1 35 v3.toNatClampNeg)]) cx hP hS hRk (c_Mo_enter l g hg h25) Y_Mo_enter V_Mo_enter t_881 (by decide) (by decide) (e_15 g _ _) rfl rfl hl.1 rfl (Nat.le_of_ble_eq_true rfl) dMo_run_107 (fun H locs hP hS => ?_)
          refine lv_if_eq (tgt := 117) hx hb dMo_run_110 (by decide) (fun hc => ?_) (fun hc => ?_)
          · replace h := if_t h hc
            refine lv_iconst (v := 0) hx hb dMo_run_117 (by decide) ?_
            exact J118 _ _ _ _ _ _ h _ _ _ (lv_sub hl [0, 1, 2, 3, 4] rfl) hP hS
          · replace h := if_f h hc
            exact J113 _ _ _ _ _ h _ _ _ (lv_sub hl [0, 1, 2, 3, 4] rfl) hP hS
      unfold f_Mo_run_L33 at h
      refine lv_iload_n hx hb dMo_run_33 rfl (lv_at hl 1 rfl) ?_
      refine lv_if_eq (tgt := 274) hx hb dMo_run_34 (by decide) (fun hc => ?_) (fun hc => ?_)
      · replace h := if_t h hc
        obtain ⟨z28, h, ez28⟩ := inrM_some h
        rw [E33 z28 ez28] at h
        exact J274 _ _ _ h _ _ _ (lv_sub hl [0, 1, 2] rfl) hP hS
      · replace h := if_f h hc
        refine lv_aload_n hx hb dMo_run_37 rfl (lv_at hl 0 rfl) ?_
        refine g_Mo_running cx hP  t_556 dMo_run_38 ?_
        refine lv_if_le (tgt := 274) hx hb dMo_run_41 (by decide) (fun hc => ?_) (fun hc => ?_)
        · replace h := if_t h hc
          obtain ⟨z29, h, ez29⟩ := inrM_some h
          rw [E33 z29 ez29] at h
          exact J274 _ _ _ h _ _ _ (lv_sub hl [0, 1, 2] rfl) hP hS
        · replace h := if_f h hc
          refine lv_aload_n hx hb dMo_run_44 rfl (lv_at hl 0 rfl) ?_
          refine g_Mo_running cx hP  t_556 dMo_run_45 ?_
          refine lv_iconst (v := 1) hx hb dMo_run_48 (by decide) ?_
          refine lv_isub hx hb dMo_run_49 ?_
          obtain ⟨x30, ex30, h⟩ := lt_some h
          refine q_nmi ex30 ?_
          refine lv_istore_n (lv' := [(3, .int x30), (0, .ref (ad g 15)), (1, .int v1), (2, .int v2)]) hx hb dMo_run_50 rfl hl (Nat.le_of_ble_eq_true rfl) rfl (fun ls hl => ?_)
          refine lv_aload_n hx hb dMo_run_51 rfl (lv_at hl 1 rfl) ?_
          refine g_Mo_term cx hP  t_557 dMo_run_52 ?_
          refine lv_iload_n hx hb dMo_run_55 rfl (lv_at hl 0 rfl) ?_
          obtain ⟨b31, h⟩ := gd_some h
          refine q_iald cx hP (by decide) (e_33 g) b31 dMo_run_56 ?_
          obtain ⟨x32, ex32, h⟩ := lt_some h
          refine q_nmi ex32 ?_
          refine lv_istore (lv' := [(4, .int x32), (3, .int x30), (0, .ref (ad g 15)), (1, .int v1), (2, .int v2)]) hx hb dMo_run_57 hl (Nat.le_of_ble_eq_true rfl) rfl (fun ls hl => ?_)
          refine lv_iload_n hx hb dMo_run_59 rfl (lv_at hl 4 rfl) ?_
          refine lv_if_ne (tgt := 122) hx hb dMo_run_60 (by decide) (fun hc => ?_) (fun hc => ?_)
          · replace h := if_f h hc
            refine lv_aload_n hx hb dMo_run_122 rfl (lv_at hl 2 rfl) ?_
            refine g_Mo_stage cx hP  t_558 dMo_run_123 ?_
            refine lv_iload_n hx hb dMo_run_126 rfl (lv_at hl 1 rfl) ?_
            obtain ⟨b33, h⟩ := gd_some h
            refine q_iald cx hP (by decide) (e_34 g) b33 dMo_run_127 ?_
            refine lv_iconst (v := 1) hx hb dMo_run_128 (by decide) ?_
            refine lv_icmp_ne (tgt := 155) hx hb dMo_run_129 (by decide) (fun hc => ?_) (fun hc => ?_)
            · replace h := if_f h hc
              exact J155 _ _ _ _ _ h _ _ _ (lv_sub hl [2, 3, 4, 1, 0] rfl) hP hS
            · replace h := if_t h hc
              refine lv_aload_n hx hb dMo_run_132 rfl (lv_at hl 2 rfl) ?_
              refine g_Mo_kinds cx hP  t_532 dMo_run_133 ?_
              refine lv_iload hx hb dMo_run_136 (lv_at hl 0 rfl) ?_
              obtain ⟨b34, h⟩ := gd_some h
              refine q_iald cx hP (by decide) (e_16 g) b34 dMo_run_138 ?_
              refine lv_bipush (v := 6) hx hb dMo_run_139 (by decide) ?_
              refine lv_icmp_eq (tgt := 155) hx hb dMo_run_141 (by decide) (fun hc => ?_) (fun hc => ?_)
              · replace h := if_t h hc
                exact J155 _ _ _ _ _ h _ _ _ (lv_sub hl [2, 3, 4, 1, 0] rfl) hP hS
              · replace h := if_f h hc
                refine lv_iconst (v := 0) hx hb dMo_run_144 (by decide) ?_
                obtain ⟨x35, ex35, h⟩ := lt_some h
                refine q_nmi ex35 ?_
                refine lv_istore_n (lv' := [(2, .int x35), (4, .int x32), (3, .int x30), (0, .ref (ad g 15)), (1, .int v1)]) hx hb dMo_run_145 rfl hl (Nat.le_of_ble_eq_true rfl) rfl (fun ls hl => ?_)
                refine lv_aload_n hx hb dMo_run_146 rfl (lv_at hl 3 rfl) ?_
                refine lv_iload_n hx hb dMo_run_147 rfl (lv_at hl 2 rfl) ?_
                obtain ⟨r38, σ37, h36, h⟩ := bn_some h
                refine q_cVi (rest := []) (As := [.int x30]) cx hP hS hRk (c_Mo_second l g hg h36) Y_Mo_second V_Mo_second t_897 (by decide) (by decide) (e_15 g _ _) rfl rfl hl.1 rfl (Nat.le_of_ble_eq_true rfl) dMo_run_148 (fun H locs hP hS => ?_)
                refine lv_istore_n (lv' := [(1, .int r38), (2, .int x35), (4, .int x32), (3, .int x30), (0, .ref (ad g 15))]) hx hb dMo_run_151 rfl hl (Nat.le_of_ble_eq_true rfl) rfl (fun ls hl => ?_)
                refine lv_goto (tgt := 271) hx hb dMo_run_152 (by decide) ?_
                exact J271 _ _ _ _ _ h _ _ _ (lv_sub hl [4, 0, 1, 3, 2] rfl) hP hS
          · replace h := if_t h hc
            refine lv_aload_n hx hb dMo_run_63 rfl (lv_at hl 2 rfl) ?_
            refine lv_iload_n hx hb dMo_run_64 rfl (lv_at hl 1 rfl) ?_
            obtain ⟨r41, σ40, h39, h⟩ := bn_some h
            refine q_cVi (rest := []) (As := [.int x30]) cx hP hS hRk (c_Mo_isDone l g hg h39) Y_Mo_isDone V_Mo_isDone t_885 (by decide) (by decide) (e_15 g _ _) rfl rfl hl.1 rfl (Nat.le_of_ble_eq_true rfl) dMo_run_65 (fun H locs hP hS => ?_)
            refine lv_istore_n (lv' := [(2, .int r41), (4, .int x32), (3, .int x30), (0, .ref (ad g 15)), (1, .int v1)]) hx hb dMo_run_68 rfl hl (Nat.le_of_ble_eq_true rfl) rfl (fun ls hl => ?_)
            refine lv_aload_n hx hb dMo_run_69 rfl (lv_at hl 3 rfl) ?_
            refine g_Mo_stage cx hP  t_558 dMo_run_70 ?_
            refine lv_iload_n hx hb dMo_run_73 rfl (lv_at hl 2 rfl) ?_
            refine lv_iconst (v := 1) hx hb dMo_run_74 (by decide) ?_
            obtain ⟨b42, h⟩ := gd_some h
            obtain ⟨σ43, eσ43, h⟩ := lt_some h
            refine q_iast cx hP hS (by decide) (e_34 g) b42 dMo_run_75 eσ43 (fun H locs hP hS => ?_)
            refine lv_aload_n hx hb dMo_run_76 rfl (lv_at hl 3 rfl) ?_
            refine lv_iload_n hx hb dMo_run_77 rfl (lv_at hl 0 rfl) ?_
            refine lv_if_eq (tgt := 85) hx hb dMo_run_78 (by decide) (fun hc => ?_) (fun hc => ?_)
            · replace h := if_t h hc
              refine lv_aload_n hx hb dMo_run_85 rfl (lv_at hl 3 rfl) ?_
              refine g_Mo_running cx hP  t_556 dMo_run_86 ?_
              exact J89 _ _ _ _ _ _ h _ _ _ (lv_sub hl [3, 4, 0, 2, 1] rfl) hP hS
            · replace h := if_f h hc
              refine lv_iload_n hx hb dMo_run_81 rfl (lv_at hl 2 rfl) ?_
              refine lv_goto (tgt := 89) hx hb dMo_run_82 (by decide) ?_
              exact J89 _ _ _ _ _ _ h _ _ _ (lv_sub hl [3, 4, 0, 2, 1] rfl) hP hS
  exact L33 _ _ _ _ h _ _ _ (lv_sub hl [2, 1, 0] rfl) hP hS
theorem dMo_result_0 : decode cMo_result 0 = .ok (.aload_n 0, 1) := by decide +kernel
theorem dMo_result_1 : decode cMo_result 1 = .ok (.getfield 272, 3) := by decide +kernel
theorem dMo_result_4 : decode cMo_result 4 = .ok (.ireturn, 1) := by decide +kernel
def f_Mo_result   (σ : Mem) : Option (Int32 × Mem) :=
  some (σ.1 15 25, σ)
set_option maxHeartbeats 4000000 in
set_option maxRecDepth 100000 in
theorem c_Mo_result (l : Launch) (g : Gw) (hg : wInj g) {r0 : Int32} {σ σ0 : Mem} (h : f_Mo_result σ = some (r0, σ0)) : KI l yMo_result cMo_result 1 (some .int) 0 g [.ref (ad g 15)] σ r0 σ0 := by
  refine q_met g hg (own := "TermBenchModel") rfl rfl (Nat.le_of_ble_eq_true rfl) (fun p e s m args below meth c R Q cx hRk hr hQ H locs ls hP hS hl => ?_)
  have hx := cx.1
  have hb := cx.2.1
  have hown := cx.2.2.2.1
  have hts := cx.2.2.2.2.1
  have hl : lv_has ls 1 [(0, .ref (ad g 15))] := hl
  unfold f_Mo_result at h
  refine lv_aload_n hx hb dMo_result_0 rfl (lv_at hl 0 rfl) ?_
  refine g_Mo_number cx hP  t_555 dMo_result_1 ?_
  exact q_ri cx hr rfl hP hS hQ h dMo_result_4
theorem dMo_units_0 : decode cMo_units 0 = .ok (.aload_n 0, 1) := by decide +kernel
theorem dMo_units_1 : decode cMo_units 1 = .ok (.getfield 246, 3) := by decide +kernel
theorem dMo_units_4 : decode cMo_units 4 = .ok (.ireturn, 1) := by decide +kernel
def f_Mo_units   (σ : Mem) : Option (Int32 × Mem) :=
  some (σ.1 15 24, σ)
set_option maxHeartbeats 4000000 in
set_option maxRecDepth 100000 in
theorem c_Mo_units (l : Launch) (g : Gw) (hg : wInj g) {r0 : Int32} {σ σ0 : Mem} (h : f_Mo_units σ = some (r0, σ0)) : KI l yMo_units cMo_units 1 (some .int) 0 g [.ref (ad g 15)] σ r0 σ0 := by
  refine q_met g hg (own := "TermBenchModel") rfl rfl (Nat.le_of_ble_eq_true rfl) (fun p e s m args below meth c R Q cx hRk hr hQ H locs ls hP hS hl => ?_)
  have hx := cx.1
  have hb := cx.2.1
  have hown := cx.2.2.2.1
  have hts := cx.2.2.2.2.1
  have hl : lv_has ls 1 [(0, .ref (ad g 15))] := hl
  unfold f_Mo_units at h
  refine lv_aload_n hx hb dMo_units_0 rfl (lv_at hl 0 rfl) ?_
  refine g_Mo_units cx hP  t_554 dMo_units_1 ?_
  exact q_ri cx hr rfl hP hS hQ h dMo_units_4
