/-! the constructor of TermBench -/
abbrev uBe : Type := Nat × (Nat × (Nat → Nat → Nat)) × Nat × (Nat → Nat) × Nat × (Nat → Nat) × Nat × (Nat → Nat)
def w_Be (g : Gw) (b : Nat) (u : uBe) : va_W := (b, .inr (5, [.ref u.1, .ref u.2.2.1, .ref u.2.2.2.2.1, .ref u.2.2.2.2.2.2.1])) :: (((w_Hi g u.1 u.2.1 ++ w_Tg g u.2.2.1 u.2.2.2.1) ++ w_Pa g u.2.2.2.2.1 u.2.2.2.2.2.1) ++ w_Ma g u.2.2.2.2.2.2.1 u.2.2.2.2.2.2.2)
def z_Be : va_E := .inr (5, [.null, .null, .null, .null])
theorem ct_hi : ∀ j, j < 5 → defaultValue (tyHi j) = vp_V [.null, .int 0, .int 0, .int 0, .int 0] j := by decide +kernel
theorem ct_tg : ∀ j, j < 4 → defaultValue (tyTg j) = vp_V [.null, .null, .null, .int 0] j := by decide +kernel
theorem ct_pa : ∀ j, j < 5 → defaultValue (tyPa j) = vp_V [.null, .null, .null, .int 0, .int 0] j := by decide +kernel
theorem ct_ma : ∀ j, j < 6 → defaultValue (tyMa j) = vp_V [.null, .null, .null, .int 0, .int 0, .int 0] j := by decide +kernel
set_option maxHeartbeats 4000000 in
set_option maxRecDepth 100000 in
theorem c_Be_init (l : Launch) (g : Gw) (hg : wInj g) (b sz : Nat) : KM l yBe_init cBe_init 1 3 99 3681 g b z_Be sz (w_Be g b) := by
  refine m_met (e0 := z_Be) (fin := w_Be g b) g hg (own := "TermBench") rfl rfl rfl (Nat.le_of_ble_eq_true rfl) (fun p e s m args below meth c Q cx hZ hr hin hA hQ H locs ls hP hD hS hl => ?_)
  have hx := cx.1
  have hb := cx.2.1
  refine lv_aload_n hx hb dBe_init_0 rfl (lv_at hl 0 rfl) ?_
  refine m_obj cx t_17 ⟨Nat.le_of_ble_eq_true rfl, Nat.le_of_ble_eq_true rfl⟩ hl.1 (Nat.le_of_ble_eq_true rfl) dBe_init_1 ?_
  refine lv_aload_n hx hb dBe_init_4 rfl (lv_at hl 0 rfl) ?_
  refine m_new (C := "TermBench$History") (T := THi) (N := 5) (ci := 0) (fs := [.null, .int 0, .int 0, .int 0, .int 0]) cx hP hD hS hA qinHi tyHi_ok t_20 t_21 t_2 rfl ct_hi (Nat.le_of_ble_eq_true rfl) (Nat.le_of_ble_eq_true rfl) dBe_init_5 (fun q1 H hP hD hS => ?_)
  refine lv_dup hx hb dBe_init_8 rfl ?_
  refine m_call (y := yHi_init) (bytes := cHi_init) (maxL := 2) (d' := 2) (mc := 86) (ms := 2839) (b := q1) (e0 := z_Hi) (fin := w_Hi g q1) cx hZ hP hD hS hA (fun sz => c_Hi_init l g hg q1 sz) Y_Hi_init rfl I_Hi_init t_22 ⟨Nat.le_of_ble_eq_true rfl, Nat.le_of_ble_eq_true rfl, Nat.le_of_ble_eq_true rfl, Nat.le_of_ble_eq_true rfl⟩ hl.1 (Nat.le_of_ble_eq_true rfl) dBe_init_9 (fun u1 H locs hP hD hS => ?_)
  replace hP := va_P.swap (a := []) (b := w_Hi g q1 u1) (c := [(b, z_Be)]) hP
  replace hD := va_D.swap (a := []) (b := w_Hi g q1 u1) (c := [(b, z_Be)]) hD
  replace hP : va_P g.2.1 vwCl ((b, .inr (5, [.null, .null, .null, .null])) :: w_Hi g q1 u1) H := hP
  replace hD : va_D (va_A [(b, z_Be)] sz) ((b, .inr (5, [.null, .null, .null, .null])) :: w_Hi g q1 u1) := hD
  refine m_putR (T := TBe) (N := 4) (ci := 5) (k := 0) (ty := .object "TermBench$History") cx hin qinBe tyBe_ok nmBe hP hD hS rfl (by decide) t_157 rfl rfl (by decide +kernel) rfl rfl (Nat.le_of_ble_eq_true rfl) dBe_init_12 (fun H locs hP hD hS => ?_)
  replace hP : va_P g.2.1 vwCl ((b, .inr (5, [.ref q1, .null, .null, .null])) :: w_Hi g q1 u1) H := hP
  replace hD : va_D (va_A [(b, z_Be)] sz) ((b, .inr (5, [.ref q1, .null, .null, .null])) :: w_Hi g q1 u1) := hD
  refine lv_aload_n hx hb dBe_init_15 rfl (lv_at hl 0 rfl) ?_
  refine m_new (C := "TermBench$Typing") (T := TTg) (N := 4) (ci := 4) (fs := [.null, .null, .null, .int 0]) cx hP hD hS hA qinTg tyTg_ok t_83 t_84 t_4 rfl ct_tg (Nat.le_of_ble_eq_true rfl) (Nat.le_of_ble_eq_true rfl) dBe_init_16 (fun q2 H hP hD hS => ?_)
  refine lv_dup hx hb dBe_init_19 rfl ?_
  refine m_callN (y := yTg_init) (bytes := cTg_init) (maxL := 1) (d' := 1) (mc := 3) (ms := 120) (b := q2) (e0 := z_Tg) (fin := w_Tg g q2) (host := "TermBench") cx hZ hP hD hS hA (fun sz => c_Tg_init l g hg q2 sz) Y_Tg_init rfl I_Tg_init hZ.2.2.1 ⟨Nat.le_of_ble_eq_true rfl, Nat.le_of_ble_eq_true rfl, Nat.le_of_ble_eq_true rfl, Nat.le_of_ble_eq_true rfl⟩ hl.1 (Nat.le_of_ble_eq_true rfl) dBe_init_20 (fun a2 H locs hP hD hS => ?_)
  replace hP := va_P.swap (a := []) (b := w_Tg g q2 a2) hP
  replace hD := va_D.swap (a := []) (b := w_Tg g q2 a2) hD
  replace hP : va_P g.2.1 vwCl ((b, .inr (5, [.ref q1, .null, .null, .null])) :: (w_Hi g q1 u1 ++ w_Tg g q2 a2)) H := hP
  replace hD : va_D (va_A [(b, z_Be)] sz) ((b, .inr (5, [.ref q1, .null, .null, .null])) :: (w_Hi g q1 u1 ++ w_Tg g q2 a2)) := hD
  refine m_putR (T := TBe) (N := 4) (ci := 5) (k := 1) (ty := .object "TermBench$Typing") cx hin qinBe tyBe_ok nmBe hP hD hS rfl (by decide) t_158 rfl rfl (by decide +kernel) rfl rfl (Nat.le_of_ble_eq_true rfl) dBe_init_23 (fun H locs hP hD hS => ?_)
  replace hP : va_P g.2.1 vwCl ((b, .inr (5, [.ref q1, .ref q2, .null, .null])) :: (w_Hi g q1 u1 ++ w_Tg g q2 a2)) H := hP
  replace hD : va_D (va_A [(b, z_Be)] sz) ((b, .inr (5, [.ref q1, .ref q2, .null, .null])) :: (w_Hi g q1 u1 ++ w_Tg g q2 a2)) := hD
  refine lv_aload_n hx hb dBe_init_26 rfl (lv_at hl 0 rfl) ?_
  refine m_new (C := "TermBench$Page") (T := TPa) (N := 5) (ci := 2) (fs := [.null, .null, .null, .int 0, .int 0]) cx hP hD hS hA qinPa tyPa_ok t_106 t_107 t_5 rfl ct_pa (Nat.le_of_ble_eq_true rfl) (Nat.le_of_ble_eq_true rfl) dBe_init_27 (fun q3 H hP hD hS => ?_)
  refine lv_dup hx hb dBe_init_30 rfl ?_
  refine m_callN (y := yPa_init) (bytes := cPa_init) (maxL := 1) (d' := 1) (mc := 3) (ms := 300) (b := q3) (e0 := z_Pa) (fin := w_Pa g q3) (host := "TermBench") cx hZ hP hD hS hA (fun sz => c_Pa_init l g hg q3 sz) Y_Pa_init rfl I_Pa_init hZ.2.2.2.1 ⟨Nat.le_of_ble_eq_true rfl, Nat.le_of_ble_eq_true rfl, Nat.le_of_ble_eq_true rfl, Nat.le_of_ble_eq_true rfl⟩ hl.1 (Nat.le_of_ble_eq_true rfl) dBe_init_31 (fun a3 H locs hP hD hS => ?_)
  replace hP := va_P.swap (a := []) (b := w_Pa g q3 a3) hP
  replace hD := va_D.swap (a := []) (b := w_Pa g q3 a3) hD
  replace hP : va_P g.2.1 vwCl ((b, .inr (5, [.ref q1, .ref q2, .null, .null])) :: ((w_Hi g q1 u1 ++ w_Tg g q2 a2) ++ w_Pa g q3 a3)) H := hP
  replace hD : va_D (va_A [(b, z_Be)] sz) ((b, .inr (5, [.ref q1, .ref q2, .null, .null])) :: ((w_Hi g q1 u1 ++ w_Tg g q2 a2) ++ w_Pa g q3 a3)) := hD
  refine m_putR (T := TBe) (N := 4) (ci := 5) (k := 2) (ty := .object "TermBench$Page") cx hin qinBe tyBe_ok nmBe hP hD hS rfl (by decide) t_159 rfl rfl (by decide +kernel) rfl rfl (Nat.le_of_ble_eq_true rfl) dBe_init_34 (fun H locs hP hD hS => ?_)
  replace hP : va_P g.2.1 vwCl ((b, .inr (5, [.ref q1, .ref q2, .ref q3, .null])) :: ((w_Hi g q1 u1 ++ w_Tg g q2 a2) ++ w_Pa g q3 a3)) H := hP
  replace hD : va_D (va_A [(b, z_Be)] sz) ((b, .inr (5, [.ref q1, .ref q2, .ref q3, .null])) :: ((w_Hi g q1 u1 ++ w_Tg g q2 a2) ++ w_Pa g q3 a3)) := hD
  refine lv_aload_n hx hb dBe_init_37 rfl (lv_at hl 0 rfl) ?_
  refine m_new (C := "TermBench$Machine") (T := TMa) (N := 6) (ci := 1) (fs := [.null, .null, .null, .int 0, .int 0, .int 0]) cx hP hD hS hA qinMa tyMa_ok t_130 t_131 t_6 rfl ct_ma (Nat.le_of_ble_eq_true rfl) (Nat.le_of_ble_eq_true rfl) dBe_init_38 (fun q4 H hP hD hS => ?_)
  refine lv_dup hx hb dBe_init_41 rfl ?_
  refine m_callN (y := yMa_init) (bytes := cMa_init) (maxL := 1) (d' := 1) (mc := 3) (ms := 402) (b := q4) (e0 := z_Ma) (fin := w_Ma g q4) (host := "TermBench") cx hZ hP hD hS hA (fun sz => c_Ma_init l g hg q4 sz) Y_Ma_init rfl I_Ma_init hZ.2.2.2.2 ⟨Nat.le_of_ble_eq_true rfl, Nat.le_of_ble_eq_true rfl, Nat.le_of_ble_eq_true rfl, Nat.le_of_ble_eq_true rfl⟩ hl.1 (Nat.le_of_ble_eq_true rfl) dBe_init_42 (fun a4 H locs hP hD hS => ?_)
  replace hP := va_P.swap (a := []) (b := w_Ma g q4 a4) hP
  replace hD := va_D.swap (a := []) (b := w_Ma g q4 a4) hD
  replace hP : va_P g.2.1 vwCl ((b, .inr (5, [.ref q1, .ref q2, .ref q3, .null])) :: (((w_Hi g q1 u1 ++ w_Tg g q2 a2) ++ w_Pa g q3 a3) ++ w_Ma g q4 a4)) H := hP
  replace hD : va_D (va_A [(b, z_Be)] sz) ((b, .inr (5, [.ref q1, .ref q2, .ref q3, .null])) :: (((w_Hi g q1 u1 ++ w_Tg g q2 a2) ++ w_Pa g q3 a3) ++ w_Ma g q4 a4)) := hD
  refine m_putR (T := TBe) (N := 4) (ci := 5) (k := 3) (ty := .object "TermBench$Machine") cx hin qinBe tyBe_ok nmBe hP hD hS rfl (by decide) t_160 rfl rfl (by decide +kernel) rfl rfl (Nat.le_of_ble_eq_true rfl) dBe_init_45 (fun H locs hP hD hS => ?_)
  exact m_rv cx hr (q1, u1, q2, a2, q3, a3, q4, a4) hP hD hS hQ (Nat.le_of_ble_eq_true rfl) (Nat.le_of_ble_eq_true rfl) dBe_init_48
