/-! the law from its entry: over the pure step alone -/
theorem s_known {s : State} {b : Nat} (hts : ∀ w ∈ lw_tbl, w.before #[Value.ref b] s = true) : ∃ G : va_G × ClassId × ClassId × ClassId, ∀ ad0 : Nat → Nat, va_K (ad0, G).2.1 vwCl (gT (ad0, G)) s := by
  have hq : ∀ w ∈ qw, w.before #[Value.ref b] s = true := fun w h => hts w (List.mem_filter.mp h).1
  obtain ⟨c0, i0, k0⟩ := u_known hq qinHi (hq _ t_21)
  obtain ⟨c1, i1, k1⟩ := u_known hq qinMa (hq _ t_131)
  obtain ⟨c2, i2, k2⟩ := u_known hq qinPa (hq _ t_107)
  obtain ⟨c3, i3, k3⟩ := u_known hq qinPr (hq _ t_28)
  obtain ⟨c4, i4, k4⟩ := u_known hq qinTg (hq _ t_84)
  obtain ⟨c5, i5, k5⟩ := u_known hq qinBe (hq _ t_13)
  obtain ⟨c6, i6, k6⟩ := u_known hq qinMo (hq _ t_525)
  obtain ⟨aI_, kI, mI, a1, a2, a3⟩ := Cond.arrayClass_spec (hq _ (qm (i := 64) (w := Cond.arrayClass .int) (by decide +kernel) (by decide +kernel)))
  obtain ⟨aL_, kL, mL, b1, b2, b3⟩ := Cond.arrayClass_spec (hq _ (qm (i := 65) (w := Cond.arrayClass .long) (by decide +kernel) (by decide +kernel)))
  obtain ⟨mR, aR_, kR, d1, _, d2, d3, d4⟩ := Cond.arrayOver_spec (hts (Cond.arrayOver (.object "TermBench$Program")) (List.mem_append_right _ (List.mem_of_getElem? (i := 27) (by decide +kernel))))
  refine ⟨((fun k => if k = 0 then c0 else if k = 1 then c1 else if k = 2 then c2 else if k = 3 then c3 else if k = 4 then c4 else if k = 5 then c5 else c6, fun k => if k = 0 then i0 else if k = 1 then i1 else if k = 2 then i2 else if k = 3 then i3 else if k = 4 then i4 else if k = 5 then i5 else i6), aI_, aL_, aR_), fun ad0 => ⟨fun k q h => ?_, fun k q h => ?_⟩⟩
  · match k, h with
    | 0, h => cases h; exact k0
    | 1, h => cases h; exact k1
    | 2, h => cases h; exact k2
    | 3, h => cases h; exact k3
    | 4, h => cases h; exact k4
    | 5, h => cases h; exact k5
    | 6, h => cases h; exact k6
    | k + 7, h => simp [vwCl] at h
  · match k, h with
    | 0, h => cases h; exact ⟨fun n z => ⟨fun k h => (by cases h), kI, a2, mI, a3⟩, a1⟩
    | 1, h => cases h; exact ⟨fun n z => ⟨fun k h => (by cases h), kL, b2, mL, b3⟩, b1⟩
    | 2, h => cases h; exact ⟨fun n z => ⟨fun k h => (by cases h), kR, d2, mR, d3⟩, kR, mR, d2, d3, d1, d4⟩
    | k + 3, h => simp [gT] at h
theorem s_mZ {s : State} {b : Nat} (hts : ∀ w ∈ lw_tbl, w.before #[Value.ref b] s = true) : mZ s :=
  ⟨va_AO.of (hts _ (List.mem_append_right _ (List.mem_of_getElem? (i := 27) (by decide +kernel)))), va_Nw.of rfl (hts _ (List.mem_append_right _ (List.mem_of_getElem? (i := 29) (by decide +kernel)))), va_Nw.of rfl (hts _ (List.mem_append_right _ (List.mem_of_getElem? (i := 85) (by decide +kernel)))), va_Nw.of rfl (hts _ (List.mem_append_right _ (List.mem_of_getElem? (i := 108) (by decide +kernel)))), va_Nw.of rfl (hts _ (List.mem_append_right _ (List.mem_of_getElem? (i := 132) (by decide +kernel))))⟩
theorem s_cond {L n : Nat} (hL : L ≤ 2048) (hn : n ≤ 4096) : (Int32.ofNat L - 4 < nI n) ↔ L < n + 4 := by
  have h1 : (nI L - nI 4).toInt = (L : Int) - (4 : Nat) := pk_sub_toInt (by omega) (by omega)
  have h2 : (nI n).toInt = (n : Int) := nI_toInt (by omega)
  rw [Int32.lt_iff_toInt_lt]
  show (nI L - nI 4).toInt < (nI n).toInt ↔ _
  rw [h1, h2]
  omega
theorem ct_be : ∀ j, j < 4 → defaultValue (tyBe j) = vp_V [.null, .null, .null, .null] j := by decide +kernel
theorem ct_mo : ∀ j, j < 42 → defaultValue (tyMo j) = vp_V [.int 0, .int 0, .null, .null, .null, .int 0, .int 0, .null, .null, .null, .null, .null, .int 0, .null, .null, .null, .int 0, .int 0, .null, .null, .null, .null, .null, .null, .int 0, .int 0, .int 0, .null, .null, .null, .null, .null, .null, .int 0, .int 0, .int 0, .int 0, .null, .null, .null, .null, .null] j := by decide +kernel
/-- the pure law: an invariant that every call keeps, however the script goes on -/
def PureOK (xs : Nat → Int32) (Inv : Nat → Mem → Prop) : Prop := Inv 0 mem0 ∧ ∀ (k n : Nat) (σ : Mem), k < 512 → Inv k σ → ∃ σ', lawStep xs n σ = some σ' ∧ Inv (k + 1) σ'
set_option maxHeartbeats 4000000 in
set_option maxRecDepth 100000 in
theorem s_loop {p : Program} {l : Launch} {e : Env} {s : State} {m : MethodId} {below : List Frame} {meth : Method} {c : Code} {g : Gw} {H0 : Heap} {b L : Nat} {xs : Nat → Int32} {Inv : Nat → Mem → Prop} (hg : wInj g) (cx : Cx p s m #[Value.ref b] meth c cLa_law 4 "TermBenchLaw" g) (hr : meth.sig.returnType = ret) (hX : va_X b L xs s H0) (hbl : b < H0.size) (hbA : ¬ wA g b) (hA : ∀ q, wA g q → s.heap.size ≤ q) (hL : L ≤ 2048) (hI : PureOK xs Inv) :
    ∀ (f k : Nat) (σ : Mem), L - 4 * k ≤ f → 4 * k ≤ 4096 → Inv k σ → ∀ (H : Heap) (locs : List Loc) (ls : Array Slot), lv_has ls 4 [(0, .ref b), (1, .ref (ad g 0)), (2, .ref (ad g 15)), (3, .int (nI (4 * k)))] → Wd g σ H → va_S (wA g) H0 H locs → W p l e room_1 s m #[Value.ref b] below meth c H locs 129 15329 (lw_Z below #[Value.ref b] s) (F0 m 18 ls []) := by
  have hx := cx.1
  have hb := cx.2.1
  intro f
  induction f with
  | zero =>
    intro k σ hf hk hInv H locs ls hl hP hS
    refine lv_iload_n hx hb dLa_law_18 rfl (lv_at hl 3 rfl) ?_
    refine lv_aload_n hx hb dLa_law_19 rfl (lv_at hl 0 rfl) ?_
    refine va_slen hx hb hX hbl hbA hS dLa_law_20 ?_
    refine lv_iconst (v := 4) hx hb dLa_law_21 (by decide) ?_
    refine lv_isub hx hb dLa_law_22 ?_
    refine lv_icmp_gt (tgt := 674) hx hb dLa_law_23 (by decide) (fun _ => ?_) (fun hc => absurd ((s_cond hL hk).mpr (by omega)) hc)
    refine lv_iconst (v := 1) hx hb dLa_law_674 (by decide) ?_
    refine va_forget (fun q hq => hA _ (hS.2.2 q hq)) (W.widen (k := 600000) (n := 7302249) (by decide) (by decide) ?_)
    exact lw_ret hx hb hr cx.2.2.2.2.2.1 dLa_law_675
  | succ f ih =>
    intro k σ hf hk hInv H locs ls hl hP hS
    refine lv_iload_n hx hb dLa_law_18 rfl (lv_at hl 3 rfl) ?_
    refine lv_aload_n hx hb dLa_law_19 rfl (lv_at hl 0 rfl) ?_
    refine va_slen hx hb hX hbl hbA hS dLa_law_20 ?_
    refine lv_iconst (v := 4) hx hb dLa_law_21 (by decide) ?_
    refine lv_isub hx hb dLa_law_22 ?_
    refine lv_icmp_gt (tgt := 674) hx hb dLa_law_23 (by decide) (fun _ => ?_) (fun hc => ?_)
    · refine lv_iconst (v := 1) hx hb dLa_law_674 (by decide) ?_
      refine va_forget (fun q hq => hA _ (hS.2.2 q hq)) (W.widen (k := 600000) (n := 7302249) (by decide) (by decide) ?_)
      exact lw_ret hx hb hr cx.2.2.2.2.2.1 dLa_law_675
    · have hn : 4 * k + 4 ≤ L := Nat.not_lt.mp (fun q => hc ((s_cond hL hk).mpr q))
      obtain ⟨σ', hst, hInv'⟩ := hI.2 k (4 * k) σ (by omega) hInv
      refine s_turn hg cx ⟨by decide, by decide, by decide, by decide⟩ hX hbl hbA hn hL hst (fun H locs ls hl hP hS => ?_) hl hP hS
      exact ih (k + 1) σ' (by omega) (by omega) hInv' H locs ls hl hP hS
set_option maxHeartbeats 4000000 in
set_option maxRecDepth 100000 in
theorem start_of {p : Program} {e : Env} {s : State} {m : MethodId} {below : List Frame} {meth : Method} {c : Code} (l : Launch) {b L : Nat} {xs : Nat → Int32} {Inv : Nat → Mem → Prop} (hI : PureOK xs Inv) (hL : L ≤ 2048) (C0 : lw_At p s m meth c b L xs) : W p l e room_1 s m #[Value.ref b] below meth c s.heap [] 0 0 (lw_Z below #[Value.ref b] s) (entryFrame m ([Value.ref b] : List Value).toArray 4) := by
  obtain ⟨hx, hb, hr, hml, hown, hts, hX, hbl, hlk, -⟩ := C0
  obtain ⟨G, hK⟩ := s_known hts
  have hZ := s_mZ hts
  have hq : ∀ w ∈ qw, w.before #[Value.ref b] s = true := fun w h => hts w (List.mem_filter.mp h).1
  have hg0 : wInj (id, G) := fun i j _ _ q => q
  have cx : Cx p s m #[Value.ref b] meth c cLa_law 4 "TermBenchLaw" (id, G) := ⟨hx, hb, hml, hown, hq, hlk, hK id, hg0⟩
  rw [lg_entry_eq]
  have hl := lv_entry [Value.ref b] (n := 4) (Nat.le_of_ble_eq_true rfl)
  generalize (lg_sl [Value.ref b] ++ List.replicate (4 - (lg_sl [Value.ref b]).length) Slot.unset).toArray = ls at hl ⊢
  replace hl : lv_has ls 4 [(0, .ref b)] := hl
  have hD : va_D (fun q => s.heap.size ≤ q) [] := ⟨fun i j p q h => by simp at h, fun k q h => by simp at h⟩
  have hA : ∀ q, s.heap.size ≤ q → s.heap.size ≤ q := fun _ h => h
  refine m_new (g := (id, G)) (C := "TermBench") (T := TBe) (N := 4) (ci := 5) (fs := [.null, .null, .null, .null]) cx va_P_nil hD va_S.rf hA qinBe tyBe_ok t_12 t_13 t_1 rfl ct_be (by decide) (by decide) dLa_law_0 (fun q H hP hD hS => ?_)
  refine lv_dup hx hb dLa_law_3 rfl ?_
  refine m_call (y := yBe_init) (bytes := cBe_init) (maxL := 1) (d' := 3) (mc := 99) (ms := 3681) (b := q) (e0 := z_Be) (fin := w_Be (id, G) q) cx hZ hP hD hS hA (fun sz => c_Be_init l (id, G) hg0 q sz) Y_Be_init rfl I_Be_init t_14 ⟨by decide, by decide, by decide, by decide⟩ hl.1 (Nat.le_of_ble_eq_true rfl) dLa_law_4 (fun u H locs hP hD hS => ?_)
  refine lv_astore_n (lv' := [(1, .ref q), (0, .ref b)]) hx hb dLa_law_7 rfl hl (by decide) rfl (fun ls hl => ?_)
  refine m_new (g := (id, G)) (C := "TermBenchModel") (T := TMo) (N := 42) (ci := 6) (fs := [.int 0, .int 0, .null, .null, .null, .int 0, .int 0, .null, .null, .null, .null, .null, .int 0, .null, .null, .null, .int 0, .int 0, .null, .null, .null, .null, .null, .null, .int 0, .int 0, .int 0, .null, .null, .null, .null, .null, .null, .int 0, .int 0, .int 0, .int 0, .null, .null, .null, .null, .null]) cx hP hD hS hA qinMo tyMo_ok t_524 t_525 t_7 rfl ct_mo (by decide) (by decide) dLa_law_8 (fun q' H hP hD hS => ?_)
  refine lv_dup hx hb dLa_law_11 rfl ?_
  refine m_call (y := yMo_init) (bytes := cMo_init) (maxL := 1) (d' := 1) (mc := 28) (ms := 11602) (b := q') (e0 := z_Mo) (fin := w_Mo (id, G) q') cx hZ hP hD hS hA (fun sz => c_Mo_init l (id, G) hg0 q' sz) Y_Mo_init rfl I_Mo_init t_526 ⟨by decide, by decide, by decide, by decide⟩ hl.1 (Nat.le_of_ble_eq_true rfl) dLa_law_12 (fun a H locs hP hD hS => ?_)
  refine lv_astore_n (lv' := [(2, .ref q'), (1, .ref q), (0, .ref b)]) hx hb dLa_law_15 rfl hl (by decide) rfl (fun ls hl => ?_)
  refine lv_iconst (v := 0) hx hb dLa_law_16 (by decide) ?_
  refine lv_istore_n (lv' := [(3, .int (nI (4 * 0))), (2, .ref q'), (1, .ref q), (0, .ref b)]) hx hb dLa_law_17 rfl hl (by decide) rfl (fun ls hl => ?_)
  obtain ⟨hW, hg, hAw⟩ := B_world (G := G) (ad0 := id) hP hD
  refine va_forget (fun x hx => hS.2.2 x hx) ?_
  have cx2 : Cx p s m #[Value.ref b] meth c cLa_law 4 "TermBenchLaw" (adF q q' u a, G) := ⟨hx, hb, hml, hown, hq, hlk, hK _, hg⟩
  have hbA : ¬ wA (adF q q' u a, G) b := fun h => absurd (hAw b h) (by omega)
  have hX2 : va_X b L xs s H := hX.kept (hS.2.1 b hbl (by show ¬ s.heap.size ≤ b; omega))
  exact s_loop hg cx2 hr hX2 (Nat.lt_of_lt_of_le hbl hS.1) hbA hAw hL hI L 0 mem0 (by omega) (by omega) hI.1 H [] ls (lv_sub hl [3, 2, 1, 0] rfl) hW va_S.rf
