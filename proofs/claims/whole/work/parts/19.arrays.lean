/-! 19.arrays, by program: pure functions and contracts -/
theorem dAr_fill_0 : decode cAr_fill 0 = .ok (.iconst 0, 1) := by decide +kernel
theorem dAr_fill_1 : decode cAr_fill 1 = .ok (.istore_n 3, 1) := by decide +kernel
theorem dAr_fill_2 : decode cAr_fill 2 = .ok (.aload_n 0, 1) := by decide +kernel
theorem dAr_fill_3 : decode cAr_fill 3 = .ok (.arraylength, 1) := by decide +kernel
theorem dAr_fill_4 : decode cAr_fill 4 = .ok (.istore 4, 2) := by decide +kernel
theorem dAr_fill_6 : decode cAr_fill 6 = .ok (.iload_n 3, 1) := by decide +kernel
theorem dAr_fill_7 : decode cAr_fill 7 = .ok (.iload 4, 2) := by decide +kernel
theorem dAr_fill_9 : decode cAr_fill 9 = .ok (.if_icmp .ge 13, 3) := by decide +kernel
theorem dAr_fill_12 : decode cAr_fill 12 = .ok (.aload_n 0, 1) := by decide +kernel
theorem dAr_fill_13 : decode cAr_fill 13 = .ok (.iload_n 3, 1) := by decide +kernel
theorem dAr_fill_14 : decode cAr_fill 14 = .ok (.lload_n 1, 1) := by decide +kernel
theorem dAr_fill_15 : decode cAr_fill 15 = .ok (.lastore, 1) := by decide +kernel
theorem dAr_fill_16 : decode cAr_fill 16 = .ok (.iinc 3 1, 3) := by decide +kernel
theorem dAr_fill_19 : decode cAr_fill 19 = .ok (.goto (-13), 3) := by decide +kernel
theorem dAr_fill_22 : decode cAr_fill 22 = .ok (.return_, 1) := by decide +kernel
def f_Ar_fill_L6  (v1 : Int64) (v4 : Int32) (v3 : Int32) (σ : Mem) : Option ((Int32 × Mem) ⊕ (Unit × Mem)) :=
  if v4 ≤ v3 then (
  inrM (some ((), σ)))
  else (
  gd (inb v3 220) (lt_ (sL σ 8 v3.toNatClampNeg v1) fun (σ3 : Mem) =>
  lt_ (v3 + 1) fun (x4 : Int32) =>
  some (.inl (x4, σ3))))
def f_Ar_fill  (v1 : Int64) (σ : Mem) : Option (Unit × Mem) :=
  lt_ (0 : Int32) fun (x5 : Int32) =>
  lt_ (220 : Int32) fun (x6 : Int32) =>
  loopF (fun (q : (Int32 × Mem)) => f_Ar_fill_L6 v1 x6 q.1 q.2) FU (x5, σ)
set_option maxHeartbeats 4000000 in
set_option maxRecDepth 100000 in
theorem c_Ar_fill (l : Launch) (g : Gw) (hg : wInj g) {v1 : Int64} {σ σ0 : Mem} (h : f_Ar_fill v1 σ = some ((), σ0)) : KV l yAr_fill cAr_fill 5 none 0 g [.ref (ad g 8), .long v1] σ σ0 := by
  refine q_met g hg (own := "java/util/Arrays") rfl rfl (Nat.le_of_ble_eq_true rfl) (fun p e s m args below meth c R Q cx hRk hr hQ H locs ls hP hS hl => ?_)
  have hx := cx.1
  have hb := cx.2.1
  have hown := cx.2.2.2.1
  have hts := cx.2.2.2.2.1
  have hl : lv_has ls 5 [(0, .ref (ad g 8)), (1, .long v1)] := hl
  unfold f_Ar_fill at h
  refine lv_iconst (v := 0) hx hb dAr_fill_0 (by decide) ?_
  obtain ⟨x5, ex5, h⟩ := lt_some h
  refine q_nmi ex5 ?_
  refine lv_istore_n (lv' := [(3, .int x5), (0, .ref (ad g 8)), (1, .long v1)]) hx hb dAr_fill_1 rfl hl (Nat.le_of_ble_eq_true rfl) rfl (fun ls hl => ?_)
  refine lv_aload_n hx hb dAr_fill_2 rfl (lv_at hl 1 rfl) ?_
  refine q_alenL (v := 220) cx hP (by decide) (e_8 g) rfl dAr_fill_3 ?_
  obtain ⟨x6, ex6, h⟩ := lt_some h
  refine q_nmi ex6 ?_
  refine lv_istore (lv' := [(4, .int x6), (3, .int x5), (0, .ref (ad g 8)), (1, .long v1)]) hx hb dAr_fill_4 hl (Nat.le_of_ble_eq_true rfl) rfl (fun ls hl => ?_)
  have L6 : ∀ (n : Nat) (v1 : Int64) (v3 : Int32) (v4 : Int32) (σ : Mem), loopF (fun (q : (Int32 × Mem)) => f_Ar_fill_L6 v1 v4 q.1 q.2) n (v3, σ) = some ((), σ0) → ∀ (H : Heap) (locs : List Loc) (ls : Array Slot), lv_has ls 5 [(0, .ref (ad g 8)), (1, .long v1), (3, .int v3), (4, .int v4)] → Wd g σ H → va_S (wA g) s.heap H locs → W p l e R s m args below meth c H locs 0 0 Q (F0 m 6 ls []) := by
    intro n
    induction n with
    | zero => intro v1 v3 v4 σ h; exact (loopF_zero h).elim
    | succ n ih6 =>
      intro v1 v3 v4 σ h H locs ls hl hP hS
      obtain ⟨o6, h, K6, E6⟩ := loopF_succ h
      have h : f_Ar_fill_L6 v1 v4 v3 σ = some o6 := h
      unfold f_Ar_fill_L6 at h
      refine lv_iload_n hx hb dAr_fill_6 rfl (lv_at hl 2 rfl) ?_
      refine lv_iload hx hb dAr_fill_7 (lv_at hl 3 rfl) ?_
      refine lv_icmp_ge (tgt := 22) hx hb dAr_fill_9 (by decide) (fun hc => ?_) (fun hc => ?_)
      · replace h := if_t h hc
        obtain ⟨z1, h, ez1⟩ := inrM_some h
        rw [E6 z1 ez1] at h
        exact q_rv cx hr hP hS hQ h dAr_fill_22
      · replace h := if_f h hc
        refine lv_aload_n hx hb dAr_fill_12 rfl (lv_at hl 0 rfl) ?_
        refine lv_iload_n hx hb dAr_fill_13 rfl (lv_at hl 2 rfl) ?_
        refine lv_lload_n hx hb dAr_fill_14 rfl (lv_at hl 1 rfl) ?_
        obtain ⟨b2, h⟩ := gd_some h
        obtain ⟨σ3, eσ3, h⟩ := lt_some h
        refine q_last cx hP hS (by decide) (e_8 g) b2 dAr_fill_15 eσ3 (fun H locs hP hS => ?_)
        obtain ⟨x4, ex4, h⟩ := lt_some h
        refine lv_iinc (lv' := [(3, .int x4), (0, .ref (ad g 8)), (1, .long v1), (4, .int v4)]) hx hb dAr_fill_16 hl (k := 2) rfl (q_inc ex4 (by decide)) (Nat.le_of_ble_eq_true rfl) rfl (fun ls hl => ?_)
        refine lv_goto (tgt := 6) hx hb dAr_fill_19 (by decide) ?_
        exact ih6 _ _ _ _ (K6 _ (Option.some.inj h).symm) _ _ _ (lv_sub hl [1, 2, 0, 3] rfl) hP hS
  exact L6 _ _ _ _ _ h _ _ _ (lv_sub hl [2, 3, 1, 0] rfl) hP hS
