/-! the constructors of History (seventeen programs) and of TermBench -/
section MV
variable {p : Program} {l : Launch} {e : Env} {R : Room} {s : State} {m : MethodId} {args : Array Value} {below : List Frame} {meth : Method} {c : Code} {H : Heap} {locs : List Loc} {cells slots : Nat} {Q : State → Prop}
variable {cc : ByteArray} {pc nL index : Nat} {ls : Array Slot} {rest : List Value} {own : String} {g : Gw} {H0 : Heap} {A : Nat → Prop} {ws : va_W}
theorem m_new (cx : Cx p s m args meth c cc nL own g) (hP : va_P g.2.1 vwCl ws H) (hD : va_D A ws) (hS : va_S A H0 H locs) (hA : ∀ q, H0.size ≤ q → A q) {C : String} {T : u_T} {N ci : Nat} {fs : List Value} {ty : Nat → FieldType} (hin : ∀ w ∈ u_ws C T N, w ∈ qw) (hty : ∀ k, k < N → parseFieldDescriptor (T k).2.2.1 = some (ty k)) (h1 : Cond.classLink own index C ∈ qw) (h2 : Cond.instantiable C N ∈ qw) (h3 : Cond.initialized C ∈ qw) (hc : vwCl[ci]? = some (C, T, N)) (hfs : ∀ j, j < N → defaultValue (ty j) = vp_V fs j) (hcells : cells + 1 ≤ R.cells) (hslots : slots + N ≤ R.slots) (hd : decode cc pc = .ok (.new index, 3))
    (kk : ∀ (q : Nat) (H1 : Heap), va_P g.2.1 vwCl ([(q, .inr (ci, fs))] ++ ws) H1 → va_D A ([(q, .inr (ci, fs))] ++ ws) → va_S A H0 H1 locs → W p l e R s m args below meth c H1 locs (cells + 1) (slots + N) Q (F0 m (pc + 3) ls (.ref q :: rest))) : W p l e R s m args below meth c H locs cells slots Q (F0 m pc ls rest) :=
  va_new cx.1 cx.2.1 cx.2.2.2.2.1 hin ty hty cx.2.2.2.1 (cx.2.2.2.2.1 _ h1) (cx.2.2.2.2.1 _ h2) (cx.2.2.2.2.1 _ h3) cx.2.2.2.2.2.2.1 hP hD hS hA hc hfs hcells hslots hd (fun q H1 hP1 hD1 hS1 => kk q H1 (m_front hP1 hD1).1 (m_front hP1 hD1).2 hS1)
end MV
def Lp (g : Gw) (A : Nat → Nat → Nat) : Nat → va_W
  | 0 => []
  | n + 1 => w_Pr g (A n 0) (A n) ++ Lp g A n
theorem Lp_congr {g : Gw} {A B : Nat → Nat → Nat} : ∀ {n : Nat}, (∀ j, j < n → A j = B j) → Lp g A n = Lp g B n := by
  intro n
  induction n with
  | zero => intro _; rfl
  | succ n ih =>
    intro h
    show w_Pr g (A n 0) (A n) ++ Lp g A n = w_Pr g (B n 0) (B n) ++ Lp g B n
    rw [h n (by omega), ih (fun j hj => h j (by omega))]
def rgF (A : Nat → Nat → Nat) (n : Nat) : Nat → Option Nat := fun j => if j < n then some (A j 0) else none
def w_Hi (g : Gw) (b : Nat) (u : Nat × (Nat → Nat → Nat)) : va_W := [(b, .inr (0, [.ref u.1, .int 0, .int 0, .int 0, .int 0])), (u.1, aR g 17 (rgF u.2 17))] ++ Lp g u.2 17
def z_Hi : va_E := .inr (0, [.null, .int 0, .int 0, .int 0, .int 0])
theorem ct_lt : ∀ i, i < 17 → ¬ (17 : Int32) ≤ nI i ∧ inb (nI i) 17 = true ∧ (nI i).toNatClampNeg = i := by decide +kernel
theorem ct_pr : ∀ j, j < 6 → defaultValue (tyPr j) = vp_V [.null, .null, .null, .null, .int 0, .int 0] j := by decide +kernel
theorem dHi_init_0 : decode cHi_init 0 = .ok (.aload_n 0, 1) := by decide +kernel
theorem dHi_init_1 : decode cHi_init 1 = .ok (.invokespecial 3, 3) := by decide +kernel
theorem dHi_init_4 : decode cHi_init 4 = .ok (.aload_n 0, 1) := by decide +kernel
theorem dHi_init_5 : decode cHi_init 5 = .ok (.bipush 17, 2) := by decide +kernel
theorem dHi_init_7 : decode cHi_init 7 = .ok (.anewarray 11, 3) := by decide +kernel
theorem dHi_init_10 : decode cHi_init 10 = .ok (.putfield 13, 3) := by decide +kernel
theorem dHi_init_13 : decode cHi_init 13 = .ok (.aload_n 0, 1) := by decide +kernel
theorem dHi_init_14 : decode cHi_init 14 = .ok (.iconst 0, 1) := by decide +kernel
theorem dHi_init_15 : decode cHi_init 15 = .ok (.putfield 17, 3) := by decide +kernel
theorem dHi_init_18 : decode cHi_init 18 = .ok (.aload_n 0, 1) := by decide +kernel
theorem dHi_init_19 : decode cHi_init 19 = .ok (.iconst 0, 1) := by decide +kernel
theorem dHi_init_20 : decode cHi_init 20 = .ok (.putfield 21, 3) := by decide +kernel
theorem dHi_init_23 : decode cHi_init 23 = .ok (.aload_n 0, 1) := by decide +kernel
theorem dHi_init_24 : decode cHi_init 24 = .ok (.iconst 0, 1) := by decide +kernel
theorem dHi_init_25 : decode cHi_init 25 = .ok (.putfield 24, 3) := by decide +kernel
theorem dHi_init_28 : decode cHi_init 28 = .ok (.aload_n 0, 1) := by decide +kernel
theorem dHi_init_29 : decode cHi_init 29 = .ok (.iconst 0, 1) := by decide +kernel
theorem dHi_init_30 : decode cHi_init 30 = .ok (.putfield 27, 3) := by decide +kernel
theorem dHi_init_33 : decode cHi_init 33 = .ok (.iconst 0, 1) := by decide +kernel
theorem dHi_init_34 : decode cHi_init 34 = .ok (.istore_n 1, 1) := by decide +kernel
theorem dHi_init_35 : decode cHi_init 35 = .ok (.iload_n 1, 1) := by decide +kernel
theorem dHi_init_36 : decode cHi_init 36 = .ok (.bipush 17, 2) := by decide +kernel
theorem dHi_init_38 : decode cHi_init 38 = .ok (.if_icmp .ge 22, 3) := by decide +kernel
theorem dHi_init_41 : decode cHi_init 41 = .ok (.aload_n 0, 1) := by decide +kernel
theorem dHi_init_42 : decode cHi_init 42 = .ok (.getfield 13, 3) := by decide +kernel
theorem dHi_init_45 : decode cHi_init 45 = .ok (.iload_n 1, 1) := by decide +kernel
theorem dHi_init_46 : decode cHi_init 46 = .ok (.new 11, 3) := by decide +kernel
theorem dHi_init_49 : decode cHi_init 49 = .ok (.dup, 1) := by decide +kernel
theorem dHi_init_50 : decode cHi_init 50 = .ok (.invokespecial 30, 3) := by decide +kernel
theorem dHi_init_53 : decode cHi_init 53 = .ok (.aastore, 1) := by decide +kernel
theorem dHi_init_54 : decode cHi_init 54 = .ok (.iinc 1 1, 3) := by decide +kernel
theorem dHi_init_57 : decode cHi_init 57 = .ok (.goto (-22), 3) := by decide +kernel
theorem dHi_init_60 : decode cHi_init 60 = .ok (.return_, 1) := by decide +kernel
theorem dBe_init_0 : decode cBe_init 0 = .ok (.aload_n 0, 1) := by decide +kernel
theorem dBe_init_1 : decode cBe_init 1 = .ok (.invokespecial 1, 3) := by decide +kernel
theorem dBe_init_4 : decode cBe_init 4 = .ok (.aload_n 0, 1) := by decide +kernel
theorem dBe_init_5 : decode cBe_init 5 = .ok (.new 7, 3) := by decide +kernel
theorem dBe_init_8 : decode cBe_init 8 = .ok (.dup, 1) := by decide +kernel
theorem dBe_init_9 : decode cBe_init 9 = .ok (.invokespecial 9, 3) := by decide +kernel
theorem dBe_init_12 : decode cBe_init 12 = .ok (.putfield 10, 3) := by decide +kernel
theorem dBe_init_15 : decode cBe_init 15 = .ok (.aload_n 0, 1) := by decide +kernel
theorem dBe_init_16 : decode cBe_init 16 = .ok (.new 16, 3) := by decide +kernel
theorem dBe_init_19 : decode cBe_init 19 = .ok (.dup, 1) := by decide +kernel
theorem dBe_init_20 : decode cBe_init 20 = .ok (.invokespecial 18, 3) := by decide +kernel
theorem dBe_init_23 : decode cBe_init 23 = .ok (.putfield 19, 3) := by decide +kernel
theorem dBe_init_26 : decode cBe_init 26 = .ok (.aload_n 0, 1) := by decide +kernel
theorem dBe_init_27 : decode cBe_init 27 = .ok (.new 23, 3) := by decide +kernel
theorem dBe_init_30 : decode cBe_init 30 = .ok (.dup, 1) := by decide +kernel
theorem dBe_init_31 : decode cBe_init 31 = .ok (.invokespecial 25, 3) := by decide +kernel
theorem dBe_init_34 : decode cBe_init 34 = .ok (.putfield 26, 3) := by decide +kernel
theorem dBe_init_37 : decode cBe_init 37 = .ok (.aload_n 0, 1) := by decide +kernel
theorem dBe_init_38 : decode cBe_init 38 = .ok (.new 30, 3) := by decide +kernel
theorem dBe_init_41 : decode cBe_init 41 = .ok (.dup, 1) := by decide +kernel
theorem dBe_init_42 : decode cBe_init 42 = .ok (.invokespecial 32, 3) := by decide +kernel
theorem dBe_init_45 : decode cBe_init 45 = .ok (.putfield 33, 3) := by decide +kernel
theorem dBe_init_48 : decode cBe_init 48 = .ok (.return_, 1) := by decide +kernel
theorem rgF_up {A B : Nat → Nat → Nat} {i q : Nat} (h : ∀ j, j < i → B j = A j) (hq : B i 0 = q) : va_up (rgF A i) i (some q) = rgF B (i + 1) := by
  funext j
  unfold va_up rgF
  by_cases hj : j = i
  · subst hj
    rw [if_pos rfl, if_pos (by omega), hq]
  · rw [if_neg hj]
    by_cases hl : j < i
    · rw [if_pos hl, if_pos (by omega), h j hl]
    · rw [if_neg hl, if_neg (by omega)]
set_option maxHeartbeats 4000000 in
set_option maxRecDepth 100000 in
theorem c_Hi_init (l : Launch) (g : Gw) (hg : wInj g) (b sz : Nat) : KM l yHi_init cHi_init 2 2 86 2839 g b z_Hi sz (w_Hi g b) := by
  refine m_met (e0 := z_Hi) (fin := w_Hi g b) g hg (own := "TermBench$History") rfl rfl rfl (Nat.le_of_ble_eq_true rfl) (fun p e s m args below meth c Q cx hZ hr hin hA hQ H locs ls hP hD hS hl => ?_)
  have hx := cx.1
  have hb := cx.2.1
  have hK := cx.2.2.2.2.2.2.1
  have hown := cx.2.2.2.1
  have hts := cx.2.2.2.2.1
  refine lv_aload_n hx hb dHi_init_0 rfl (lv_at hl 0 rfl) ?_
  refine m_obj cx t_25 ⟨Nat.le_of_ble_eq_true rfl, Nat.le_of_ble_eq_true rfl⟩ hl.1 (Nat.le_of_ble_eq_true rfl) dHi_init_1 ?_
  refine lv_aload_n hx hb dHi_init_4 rfl (lv_at hl 0 rfl) ?_
  refine lv_bipush (v := 17) hx hb dHi_init_5 (by decide) ?_
  refine m_newR (N := 17) cx hZ t_26 hP hD hS hA (by decide) (by decide) (by decide) (Nat.le_of_ble_eq_true rfl) (Nat.le_of_ble_eq_true rfl) dHi_init_7 (fun r H hP hD hS => ?_)
  replace hP : va_P g.2.1 vwCl [(b, .inr (0, [.null, .int 0, .int 0, .int 0, .int 0])), (r, aR g 17 (fun _ => none))] H := hP
  replace hD : va_D (va_A [(b, z_Hi)] sz) [(b, .inr (0, [.null, .int 0, .int 0, .int 0, .int 0])), (r, aR g 17 (fun _ => none))] := hD
  refine m_putR (T := THi) (N := 5) (ci := 0) (k := 0) (ty := .array (.object "TermBench$Program")) cx hin qinHi tyHi_ok nmHi hP hD hS rfl (by decide) t_66 rfl rfl (by decide +kernel) rfl rfl (Nat.le_of_ble_eq_true rfl) dHi_init_10 (fun H locs hP hD hS => ?_)
  refine lv_aload_n hx hb dHi_init_13 rfl (lv_at hl 0 rfl) ?_
  refine lv_iconst (v := 0) hx hb dHi_init_14 (by decide) ?_
  refine m_putI (T := THi) (N := 5) (ci := 0) (k := 1) cx qinHi tyHi_ok nmHi hP hD hS rfl (by decide) t_67 rfl rfl (by decide +kernel) (Nat.le_of_ble_eq_true rfl) dHi_init_15 (fun H locs hP hD hS => ?_)
  refine lv_aload_n hx hb dHi_init_18 rfl (lv_at hl 0 rfl) ?_
  refine lv_iconst (v := 0) hx hb dHi_init_19 (by decide) ?_
  refine m_putI (T := THi) (N := 5) (ci := 0) (k := 2) cx qinHi tyHi_ok nmHi hP hD hS rfl (by decide) t_68 rfl rfl (by decide +kernel) (Nat.le_of_ble_eq_true rfl) dHi_init_20 (fun H locs hP hD hS => ?_)
  refine lv_aload_n hx hb dHi_init_23 rfl (lv_at hl 0 rfl) ?_
  refine lv_iconst (v := 0) hx hb dHi_init_24 (by decide) ?_
  refine m_putI (T := THi) (N := 5) (ci := 0) (k := 3) cx qinHi tyHi_ok nmHi hP hD hS rfl (by decide) t_69 rfl rfl (by decide +kernel) (Nat.le_of_ble_eq_true rfl) dHi_init_25 (fun H locs hP hD hS => ?_)
  refine lv_aload_n hx hb dHi_init_28 rfl (lv_at hl 0 rfl) ?_
  refine lv_iconst (v := 0) hx hb dHi_init_29 (by decide) ?_
  refine m_putI (T := THi) (N := 5) (ci := 0) (k := 4) cx qinHi tyHi_ok nmHi hP hD hS rfl (by decide) t_70 rfl rfl (by decide +kernel) (Nat.le_of_ble_eq_true rfl) dHi_init_30 (fun H locs hP hD hS => ?_)
  refine lv_iconst (v := 0) hx hb dHi_init_33 (by decide) ?_
  refine lv_istore_n (lv' := [(1, .int (nI 0)), (0, .ref b)]) hx hb dHi_init_34 rfl hl (Nat.le_of_ble_eq_true rfl) rfl (fun ls hl => ?_)
  have L35 : ∀ (k i : Nat) (A : Nat → Nat → Nat), i + k = 17 → ∀ (H : Heap) (locs : List Loc) (ls : Array Slot), lv_has ls 2 [(1, .int (nI i)), (0, .ref b)] → va_P g.2.1 vwCl ([(b, .inr (0, [.ref r, .int 0, .int 0, .int 0, .int 0])), (r, aR g 17 (rgF A i))] ++ Lp g A i) H → va_D (va_A [(b, z_Hi)] sz) ([(b, .inr (0, [.ref r, .int 0, .int 0, .int 0, .int 0])), (r, aR g 17 (rgF A i))] ++ Lp g A i) → va_S (va_A [(b, z_Hi)] sz) s.heap H locs → W p l e (rmC 2 86 2839) s m args below meth c H locs (1 + 5 * i) (17 + 166 * i) Q (F0 m 35 ls []) := by
    intro k
    induction k with
    | zero =>
      intro i A hi H locs ls hl hP hD hS
      obtain rfl : i = 17 := by omega
      refine lv_iload_n hx hb dHi_init_35 rfl (lv_at hl 0 rfl) ?_
      refine lv_bipush (v := 17) hx hb dHi_init_36 (by decide) ?_
      refine lv_icmp_ge (tgt := 60) hx hb dHi_init_38 (by decide) (fun hc => ?_) (fun hc => absurd (by decide) hc)
      exact m_rv cx hr (r, A) hP hD hS hQ (Nat.le_of_ble_eq_true rfl) (Nat.le_of_ble_eq_true rfl) dHi_init_60
    | succ k ih =>
      intro i A hi H locs ls hl hP hD hS
      obtain ⟨h17, hinb, hcl⟩ := ct_lt i (by omega)
      refine lv_iload_n hx hb dHi_init_35 rfl (lv_at hl 0 rfl) ?_
      refine lv_bipush (v := 17) hx hb dHi_init_36 (by decide) ?_
      refine lv_icmp_ge (tgt := 60) hx hb dHi_init_38 (by decide) (fun hc => absurd hc h17) (fun hc => ?_)
      refine lv_aload_n hx hb dHi_init_41 rfl (lv_at hl 1 rfl) ?_
      refine va_get (ci := 0) (v := .ref r) (C := "TermBench$History") (T := THi) (N := 5) hx hb hts qinHi hown hK hP 0 rfl rfl 0 (by decide) (hts _ t_66) (fun _ h => h) rfl dHi_init_42 ?_
      refine lv_iload_n hx hb dHi_init_45 rfl (lv_at hl 0 rfl) ?_
      refine m_new (C := "TermBench$Program") (T := TPr) (N := 6) (ci := 3) (fs := [.null, .null, .null, .null, .int 0, .int 0]) cx hP hD hS hA qinPr tyPr_ok t_26 t_28 t_3 rfl ct_pr (by show 1 + 5 * i + 1 ≤ 86; omega) (by show 17 + 166 * i + 6 ≤ 2839; omega) dHi_init_46 (fun q H hP hD hS => ?_)
      refine lv_dup hx hb dHi_init_49 rfl ?_
      refine m_callN (y := yPr_init) (bytes := cPr_init) (maxL := 1) (d' := 1) (mc := 4) (ms := 160) (b := q) (e0 := z_Pr) (fin := w_Pr g q) (host := "TermBench") cx hZ hP hD hS hA (fun sz => c_Pr_init l g hg q sz) Y_Pr_init rfl I_Pr_init hZ.2.1 ⟨Nat.le_of_ble_eq_true rfl, Nat.le_of_ble_eq_true rfl, (by show 1 + 5 * i + 1 + 4 ≤ 86; omega), (by show 17 + 166 * i + 6 + 160 ≤ 2839; omega)⟩ hl.1 (Nat.le_of_ble_eq_true rfl) dHi_init_50 (fun a H locs hP hD hS => ?_)
      have hP2 := va_P.swap (a := [(b, .inr (0, [.ref r, .int 0, .int 0, .int 0, .int 0])), (r, aR g 17 (rgF A i))]) (b := Lp g A i) (c := w_Pr g q a) (va_P.swap (a := []) (b := w_Pr g q a) hP)
      have hD2 := va_D.swap (a := [(b, .inr (0, [.ref r, .int 0, .int 0, .int 0, .int 0])), (r, aR g 17 (rgF A i))]) (b := Lp g A i) (c := w_Pr g q a) (va_D.swap (a := []) (b := w_Pr g q a) hD)
      refine va_astq (r := ("TermBench$Program", TPr, 6)) (f := rgF A i) (n := 17) hx hb hK hP2 hD2 hS 1 2 2 3 rfl rfl rfl rfl (inb_in hinb) dHi_init_53 (fun H locs hP hD hS => ?_)
      rw [hcl] at hP hD
      have hup : va_up (rgF A i) i (some q) = rgF (fun j k => if j = i then (if k = 0 then q else a k) else A j k) (i + 1) := rgF_up (fun j hj => by funext k; show (if j = i then _ else _) = _; rw [if_neg (by omega)]) (by show (if i = i then (if 0 = 0 then q else a 0) else A i 0) = q; rw [if_pos rfl, if_pos rfl])
      rw [hup] at hP hD
      have hLp : Lp g (fun j k => if j = i then (if k = 0 then q else a k) else A j k) (i + 1) = w_Pr g q a ++ Lp g A i := by
        show w_Pr g _ _ ++ Lp g _ i = _
        rw [Lp_congr (B := A) (fun j hj => by funext k; show (if j = i then _ else _) = _; rw [if_neg (by omega)])]
        unfold w_Pr
        simp
      refine lv_iinc (lv' := [(1, .int (nI (i + 1))), (0, .ref b)]) hx hb dHi_init_54 hl (k := 0) rfl (q_inc (nI_succ i) (by decide)) (Nat.le_of_ble_eq_true rfl) rfl (fun ls hl => ?_)
      refine lv_goto (tgt := 35) hx hb dHi_init_57 (by decide) ?_
      refine W.widen (k := 1 + 5 * (i + 1)) (n := 17 + 166 * (i + 1)) (by omega) (by omega) ?_
      refine ih (i + 1) (fun j k => if j = i then (if k = 0 then q else a k) else A j k) (by omega) H locs ls hl ?_ ?_ hS
      · rw [hLp]; exact hP
      · rw [hLp]; exact hD
  refine L35 17 0 (fun _ _ => 0) rfl H locs ls hl ?_ ?_ hS
  · exact hP
  · exact hD
