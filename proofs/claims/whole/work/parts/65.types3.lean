theorem s_Ty_isFrom (x : Int64) (σ : Mem) : f_Ty_isFrom x σ = some (if isF x then 1 else 0, σ) := by
  unfold f_Ty_isFrom f_Ty_isFrom_J17
  by_cases q : isF x
  · rw [if_pos (cmp0.mpr q), if_pos q]; rfl
  · rw [if_neg (fun z => q (cmp0.mp z)), if_neg q]; rfl
theorem s_Mo_isFrom (x : Int64) (σ : Mem) : f_Mo_isFrom x σ = some (if isF x then 1 else 0, σ) := by
  unfold f_Mo_isFrom f_Mo_isFrom_J17
  by_cases q : isF x
  · rw [if_pos (cmp0.mpr q), if_pos q]; rfl
  · rw [if_neg (fun z => q (cmp0.mp z)), if_neg q]; rfl
def tkF (x : Int64) : Int64 := lN (segN (vN x) 1 (nx (vN x) 1))
def gvF (x : Int64) : Int64 := lN (vN x / 4 ^ nx (vN x) 1)
def frF (x y : Int64) : Int64 := if 1 + nx (vN x) 0 + nx (vN y) 0 ≤ 27 then lN (3 + 4 * vN x + 4 ^ (1 + nx (vN x) 0) * vN y) else 1
theorem V_0 {u m : Nat} (h : tyV u m) : sc (dg u) 27 1 0 = some m ∧ nx u 0 = m ∧ 0 < m := by
  have hm := h.2.2
  exact ⟨sc_ty.mpr ⟨h.1, by omega⟩, (nx_of h.1 (by omega)).2, tyE_lt h.1⟩
theorem given_V {u m : Nat} (h : tyV u m) (h3 : dg u 0 = 3) : u / 4 ^ nx u 1 = segN u (nx u 1) m := by
  obtain ⟨a1, a2, a3, a4⟩ := V_from h h3
  unfold segN
  rw [Nat.mod_eq_of_lt]
  rw [Nat.div_lt_iff_lt_mul (Nat.pow_pos (by decide)), ← Nat.pow_add, show m - nx u 1 + nx u 1 = m by omega]
  exact h.2.1
theorem dg_div (u k : Nat) : dg (u / 4) k = dg u (k + 1) := by
  unfold dg
  rw [Nat.div_div_eq_div_mul, ← Nat.pow_succ']
/-- what is taken -/
theorem s_taken {x : Int64} (h : okT x) (h3 : isF x) (σ : Mem) : f_Ty_taken x σ = some (tkF x, σ) ∧ f_Mo_firstOf x σ = some (tkF x, σ) ∧ okT (tkF x) := by
  obtain ⟨m, hV⟩ := okT_x h
  have hu := vN_lt x
  have hu2 := tyV_lt hV
  unfold tkF
  rw [vN_eq x] at h3 ⊢
  rw [vN_lN hu]
  obtain ⟨u, hue⟩ : ∃ u, u = vN x := ⟨_, rfl⟩
  rw [← hue] at hV hu hu2 h3 ⊢
  have d0 := (isF_dg hu).mp h3
  obtain ⟨a1, a2, a3, a4⟩ := V_from hV d0
  obtain ⟨q, hq⟩ : ∃ q, q = nx u 1 := ⟨_, rfl⟩
  rw [← hq] at a1 a2 a3 a4 ⊢
  have hm := hV.2.2
  have e0 : segN u 1 q = u / 4 % 2 ^ (2 * (q - 1)) := by unfold segN; rw [Nat.pow_one, p4]
  refine ⟨?_, ?_, okT_of (seg_V a3 (by omega))⟩
  · unfold f_Ty_taken
    have e1 : ((lN u).toUInt64 >>> ((2 : Int32).toInt64.toUInt64 &&& Int64.toUInt64 63)).toInt64 = lN (u / 4) := wb_shr (k := 2) hu (by decide)
    simp only [lt_]
    rw [e1, s_Ty_symbols (by omega)]
    have e2 : sc (dg (u / 4)) 27 1 0 = some (q - 1) := by
      refine sc_ty.mpr ⟨?_, by omega⟩
      have := tyE_move (d' := dg (u / 4)) a3 (i' := 0) (fun y hy hy2 => by
        rw [Nat.zero_add, dg_div]
        congr 1; omega)
      rwa [Nat.zero_add] at this
    rw [e2]
    show some (lN (u / 4) &&& (((1 : Int64) <<< (((2 : Int32) * nI (q - 1)).toInt64 &&& 63)) - (1 : Int64)), σ) = _
    rw [mk_4 (by omega), wb_mask (by omega) (by omega), e0]
  · unfold f_Mo_firstOf f_Mo_cut
    have l1 : (1 : Int32) = nI 1 := rfl
    have e2 := (nx_of a3 (by omega)).1
    rw [l1, s_Mo_behind hu (by decide), e2, bn_q]
    show some ((lN u >>> (((2 : Int32) * nI 1).toInt64 &&& 63)) &&& (((1 : Int64) <<< (((2 : Int32) * (nI q - nI 1)).toInt64 &&& 63)) - (1 : Int64)), σ) = _
    rw [pk_sub (by omega), mk_4 (by omega), two_nI, wb_sar (by omega) (by decide), wb_mask (by omega) (by omega), e0]
theorem s_given {x : Int64} (h : okT x) (h3 : isF x) (σ : Mem) : f_Ty_given x σ = some (gvF x, σ) ∧ f_Mo_secondOf x σ = some (gvF x, σ) ∧ okT (gvF x) := by
  obtain ⟨m, hV⟩ := okT_x h
  have hu := vN_lt x
  have hu2 := tyV_lt hV
  unfold gvF
  rw [vN_eq x] at h3 ⊢
  rw [vN_lN hu]
  obtain ⟨u, hue⟩ : ∃ u, u = vN x := ⟨_, rfl⟩
  rw [← hue] at hV hu hu2 h3 ⊢
  have d0 := (isF_dg hu).mp h3
  obtain ⟨a1, a2, a3, a4⟩ := V_from hV d0
  have hg := given_V hV d0
  obtain ⟨q, hq⟩ : ∃ q, q = nx u 1 := ⟨_, rfl⟩
  rw [← hq] at a1 a2 a3 a4 hg ⊢
  have hm := hV.2.2
  refine ⟨?_, ?_, ?_⟩
  · unfold f_Ty_given
    have e1 : ((lN u).toUInt64 >>> ((2 : Int32).toInt64.toUInt64 &&& Int64.toUInt64 63)).toInt64 = lN (u / 4) := wb_shr (k := 2) hu (by decide)
    simp only [lt_]
    rw [e1, s_Ty_symbols (by omega)]
    have e2 : sc (dg (u / 4)) 27 1 0 = some (q - 1) := by
      refine sc_ty.mpr ⟨?_, by omega⟩
      have := tyE_move (d' := dg (u / 4)) a3 (i' := 0) (fun y hy hy2 => by
        rw [Nat.zero_add, dg_div]
        congr 1; omega)
      rwa [Nat.zero_add] at this
    rw [e2]
    show some (((lN (u / 4)).toUInt64 >>> (((2 : Int32) * nI (q - 1)).toInt64.toUInt64 &&& Int64.toUInt64 63)).toInt64, σ) = _
    rw [two_nI, wb_shr (by omega) (by omega), Nat.div_div_eq_div_mul, p4, ← Nat.pow_succ', show (q - 1).succ = q by omega]
  · unfold f_Mo_secondOf f_Mo_cut
    have l1 : (1 : Int32) = nI 1 := rfl
    have e2 := (nx_of a3 (by omega)).1
    have e3 := (nx_of a4 (by omega)).1
    rw [l1, s_Mo_behind hu (by decide), e2, bn_q]
    show bn (f_Mo_behind (lN u) (nI q) σ) _ = _
    rw [s_Mo_behind hu (by omega), e3, bn_q]
    show some ((lN u >>> (((2 : Int32) * nI q).toInt64 &&& 63)) &&& (((1 : Int64) <<< (((2 : Int32) * (nI m - nI q)).toInt64 &&& 63)) - (1 : Int64)), σ) = _
    have hlt : u / 4 ^ q < 2 ^ 64 := Nat.lt_of_le_of_lt (Nat.div_le_self _ _) hu
    rw [pk_sub (by omega), mk_4 (by omega), two_nI, wb_sar (by omega) (by omega), p4, wb_mask hlt (by omega), p4]
    congr 2
    rw [hg]
    unfold segN
    rw [Nat.mod_mod]
  · rw [hg]
    exact okT_of (seg_V a4 (by omega))
/-- digits of a type made of two -/
theorem fr_dg {u v m : Nat} (hu : u < 4 ^ m) : dg (3 + 4 * u + 4 ^ (1 + m) * v) 0 = 3 ∧ (∀ k, k < m → dg (3 + 4 * u + 4 ^ (1 + m) * v) (k + 1) = dg u k) ∧ ∀ k, dg (3 + 4 * u + 4 ^ (1 + m) * v) (1 + m + k) = dg v k := by
  have e0 : 4 ^ (1 + m) = 4 * 4 ^ m := by rw [Nat.add_comm, Nat.pow_succ']
  have e1 : 3 + 4 * u + 4 ^ (1 + m) * v = 3 + 4 * (u + 4 ^ m * v) := by rw [e0, Nat.mul_add, Nat.mul_assoc]; omega
  have d1 : (3 + 4 * (u + 4 ^ m * v)) / 4 = u + 4 ^ m * v := by omega
  refine ⟨?_, fun k hk => ?_, fun k => ?_⟩
  · rw [e1]
    unfold dg
    rw [Nat.pow_zero, Nat.div_one]
    omega
  · rw [e1, ← dg_div, d1]
    unfold dg
    have f1 : 4 ^ m = 4 ^ k * 4 ^ (m - k) := by rw [← Nat.pow_add]; congr 1; omega
    have f2 : 4 ^ (m - k) = 4 * 4 ^ (m - k - 1) := by rw [← Nat.pow_succ']; congr 1; omega
    rw [f1, Nat.mul_assoc, Nat.add_mul_div_left _ _ (Nat.pow_pos (by decide)), f2, Nat.mul_assoc, Nat.add_mul_mod_self_left]
  · rw [e1, show 1 + m + k = (m + k) + 1 by omega, ← dg_div, d1]
    unfold dg
    rw [Nat.pow_add, ← Nat.div_div_eq_div_mul, Nat.add_mul_div_left _ _ (Nat.pow_pos (by decide)), Nat.div_eq_of_lt hu, Nat.zero_add]
theorem fr_V {u v a b : Nat} (hu : tyV u a) (hv : tyV v b) (h : 1 + a + b ≤ 27) : tyV (3 + 4 * u + 4 ^ (1 + a) * v) (1 + a + b) := by
  obtain ⟨d0, d1, d2⟩ := fr_dg (v := v) hu.2.1
  refine ⟨?_, ?_, h⟩
  · have p1 := tyE_move (d' := dg (3 + 4 * u + 4 ^ (1 + a) * v)) hu.1 (i' := 1) (fun x _ hx => by rw [Nat.sub_zero, Nat.add_comm 1 x]; exact d1 x hx)
    have p2 := tyE_move (d' := dg (3 + 4 * u + 4 ^ (1 + a) * v)) hv.1 (i' := 1 + a) (fun x _ hx => by rw [Nat.sub_zero]; exact d2 x)
    rw [Nat.sub_zero] at p1 p2
    have p3 := tyE_from d0 (tyE_mono p1 (show a ≤ a + b by omega)) (tyE_mono p2 (show b ≤ a + b by omega))
    exact tyE_mono p3 (by omega)
  · have e0 : 4 ^ (1 + a + b) = 4 ^ (1 + a) * 4 ^ b := Nat.pow_add _ _ _
    have e1 : 4 ^ (1 + a) = 4 * 4 ^ a := by rw [Nat.add_comm, Nat.pow_succ']
    rw [e0]
    have h1 := hu.2.1
    have h2 : v + 1 ≤ 4 ^ b := hv.2.1
    have h3 : 4 ^ (1 + a) * (v + 1) ≤ 4 ^ (1 + a) * 4 ^ b := Nat.mul_le_mul_left _ h2
    rw [Nat.mul_add, Nat.mul_one] at h3
    omega
theorem okT_1 : okT 1 := okT_of (u := 1) (m := 1) ⟨by decide, by decide, by decide⟩
theorem okT_2 : okT 2 := okT_of (u := 2) (m := 1) ⟨by decide, by decide, by decide⟩
theorem s_from {x y : Int64} (hx : okT x) (hy : okT y) (σ : Mem) : f_Ty_from x y σ = some (frF x y, σ) ∧ f_Mo_from x y σ = some (frF x y, σ) ∧ okT (frF x y) := by
  obtain ⟨a, hV⟩ := okT_x hx
  obtain ⟨b, hW⟩ := okT_x hy
  have hu := vN_lt x
  have hv := vN_lt y
  have hu2 := tyV_lt hV
  have hv2 := tyV_lt hW
  unfold frF
  rw [vN_eq x, vN_eq y, vN_lN hu, vN_lN hv]
  obtain ⟨u, hue⟩ : ∃ u, u = vN x := ⟨_, rfl⟩
  obtain ⟨v, hve⟩ : ∃ v, v = vN y := ⟨_, rfl⟩
  rw [← hue] at hV hu hu2 ⊢
  rw [← hve] at hW hv hv2 ⊢
  obtain ⟨s1, n1, z1⟩ := V_0 hV
  obtain ⟨s2, n2, z2⟩ := V_0 hW
  rw [n1, n2]
  have ha := hV.2.2
  have hb := hW.2.2
  have hle : (1 : Int32) + nI a + nI b ≤ 27 ↔ 1 + a + b ≤ 27 := by
    have : (1 : Int32) + nI a + nI b = nI (1 + a + b) := by rw [show (1 : Int32) = nI 1 from rfl, nI_add, nI_add]
    rw [this]
    exact nIle (b := 27) (by omega) (by decide)
  have val : 1 + a + b ≤ 27 → ((3 : Int64) ||| (lN u <<< ((2 : Int32).toInt64 &&& 63))) ||| (lN v <<< (((2 : Int32) + ((2 : Int32) * nI a)).toInt64 &&& 63)) = lN (3 + 4 * u + 4 ^ (1 + a) * v) := fun hab => by
    have e1 : lN u <<< ((2 : Int32).toInt64 &&& 63) = lN (u * 2 ^ 2) := wb_shl (k := 2) u (by decide)
    have e2 : (2 : Int32) + (2 : Int32) * nI a = nI (2 + 2 * a) := by rw [two_nI, show (2 : Int32) = nI 2 from rfl, nI_add]
    rw [e1, e2, wb_shl v (by omega)]
    have p : 2 ^ (2 + 2 * a) = 4 ^ (1 + a) := by rw [show 2 + 2 * a = 2 * (1 + a) by omega, p4]
    have hfin := tyV_lt (fr_V hV hW hab)
    have b3 : (3 : Int64) = lN 3 := rfl
    have h4 : u < 4 ^ a := hV.2.1
    have p1 : 4 ^ (1 + a) = 4 * 4 ^ a := by rw [Nat.add_comm, Nat.pow_succ']
    have c1 : 3 ||| u * 2 ^ 2 = 3 + 4 * u := by
      have := Nat.two_pow_add_eq_or_of_lt (i := 2) (b := 3) (by decide) u
      rw [Nat.or_comm, Nat.mul_comm u, ← this]
      omega
    rw [b3, wb_or (by decide) (by omega), c1]
    have c2 : v * 2 ^ (2 + 2 * a) = 4 ^ (1 + a) * v := by rw [p, Nat.mul_comm]
    rw [c2, wb_or (by omega) (by omega)]
    have c3 : 3 + 4 * u ||| 4 ^ (1 + a) * v = 3 + 4 * u + 4 ^ (1 + a) * v := by
      have := Nat.two_pow_add_eq_or_of_lt (i := 2 + 2 * a) (b := 3 + 4 * u) (by rw [p]; omega) v
      rw [p] at this
      rw [Nat.or_comm, ← this]
      omega
    rw [c3]
  refine ⟨?_, ?_, ?_⟩
  · unfold f_Ty_from
    rw [s_Ty_symbols hu, s1, bn_q, s_Ty_symbols hv, s2, bn_q]
    show (if (1 : Int32) + nI a + nI b ≤ 27 then some (((3 : Int64) ||| (lN u <<< ((2 : Int32).toInt64 &&& 63))) ||| (lN v <<< (((2 : Int32) + ((2 : Int32) * nI a)).toInt64 &&& 63)), σ) else some (1, σ)) = _
    by_cases q : 1 + a + b ≤ 27
    · rw [if_pos (hle.mpr q), if_pos q, val q]
    · rw [if_neg (fun z => q (hle.mp z)), if_neg q]
  · unfold f_Mo_from f_Mo_from_J46
    have l0 : (0 : Int32) = nI 0 := rfl
    have t1 := (nx_of hV.1 (by omega)).1
    have t2 := (nx_of hW.1 (by omega)).1
    rw [l0, s_Mo_behind hu (by decide), t1, bn_q, s_Mo_behind hv (by decide), t2, bn_q]
    show (if (1 : Int32) + nI a + nI b ≤ 27 then some (((3 : Int64) ||| (lN u <<< ((2 : Int32).toInt64 &&& 63))) ||| (lN v <<< (((2 : Int32) + ((2 : Int32) * nI a)).toInt64 &&& 63)), σ) else some (1, σ)) = _
    by_cases q : 1 + a + b ≤ 27
    · rw [if_pos (hle.mpr q), if_pos q, val q]
    · rw [if_neg (fun z => q (hle.mp z)), if_neg q]
  · by_cases q : 1 + a + b ≤ 27
    · rw [if_pos q]
      exact okT_of (fr_V hV hW q)
    · rw [if_neg q]
      exact okT_1
