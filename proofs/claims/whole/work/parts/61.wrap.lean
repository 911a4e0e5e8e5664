section WRAPS
variable {TY : TYt} {PC : PCt} {PM : PMt} {σ : Mem} {n c p kp pb ch : Nat} {K F : Nat → Int32} {T : Nat → Int64} {Hs Ps : Nat → Pg}
/-- the reference's wrap -/
def m_wrap (x y : Int32) (z : Int64) (σ2 : Mem) : Option (Int32 × Mem) := bn (f_Mo_begin σ2) fun (_ : Unit) (σ5 : Mem) => bn (f_Mo_insert (σ5.1 15 1) x y z σ5) fun (_ : Unit) (σ7 : Mem) => bn (f_Mo_done ((σ7.1 15 1) + (1 : Int32)) σ7) fun (r10 : Int32) (σ9 : Mem) => gd (isB r10) (some (r10, σ9))
theorem IV_wrap (h : IV TY PC PM σ (n, c, K, F, T) p kp pb ch Hs Ps) (hch : ch < 1000) {x y : Int32} {z : Int64} (hx : ar x = 1) (hxK : isK x) (hy : x = 5 → ∃ m, m ≤ 9 ∧ y = nI m) (hz : okT z) {mop : Mem → Option (Int32 × Mem)} (hm : ∀ s, mop s = m_wrap x y z s) : ∃ r σ1 σ2, f_Be_wrapTyped x y z σ = some (r, σ1) ∧ isB r = true ∧ mop σ1 = some (r, σ2) ∧ Inv TY PC PM (ch + 1) σ2 := by
  have ho := h.1
  have hn : n ≤ 40 := ho.1.2.1
  have hc : c < n := ho.1.2.2.1
  have hw : wf K n := okP_wf ho.1
  have hd := okP_dp ho.1
  obtain ⟨_, w1, w2⟩ := wf_at hw hc
  have room := s_Pr_room h.2.1.2.2.2.1 hw hn hc (a := 1) (by decide)
  obtain ⟨u, hu, e⟩ := wb_of z
  have ty : f_Ty_isType z σ = some (1, σ) := by
    rw [e]; rw [e] at hz
    exact (s_Ty_isType hu σ).1 hz
  have facts : wf (insF K c x) (n + 1) ∧ ((∀ j, j < n + 1 → dp (insF K c x) j < 12) ↔ ∀ j, c ≤ j → j < eN K c → dp K j < 11) := by
    obtain ⟨f1, f2, f3, f4, f5⟩ := ins1 hw ho.1.1 (by decide) hc hx
    refine ⟨f1, fun g j h1 h2 => ?_, fun g j hj => ?_⟩
    · have := g (j + 1) (by omega)
      rw [f4 j h1 h2] at this
      omega
    · by_cases z1 : j < c
      · rw [f2 j z1]; exact hd j (by omega)
      by_cases z2 : j = c
      · rw [z2, f3]; exact hd c hc
      by_cases z3 : j ≤ eN K c
      · have := f4 (j - 1) (by omega) (by omega)
        rw [show j - 1 + 1 = j by omega] at this
        have := g (j - 1) (by omega) (by omega)
        omega
      · have := f5 (j - 1) (by omega) (by omega)
        rw [show j - 1 + 1 = j by omega] at this
        rw [this]; exact hd _ (by omega)
  obtain ⟨fw, ff⟩ := facts
  have l1 : (1 : Int32) = nI 1 := rfl
  by_cases q : n + 1 ≤ 40 ∧ mxd K c (eN K c - c) + 1 < 12
  · have fd := ff.mpr ((mxd_11 w1).mp q.2)
    have hA' : okP (n + 1, c + 1, insF K c x, insF F c y, insF T c z) := okP_of fw q.1 fd (by omega) (okK_ins ho.1.2.2.2 hxK (fun z => by rw [z] at hx; exact absurd hx (by decide)) (fun z => by
      rcases z with z | z
      · rw [z] at hx; exact absurd hx (by decide)
      · exact hy z) (fun _ => hz) c (by omega))
    obtain ⟨σ1, σ2, σ4, a1, a2, a3, a4⟩ := IV_yes h hch hA' (op := fun i s => f_Pr_wrap i x y z s) (mop := mop) (fun σ1 w => E_wrap w ho.1.1 q.1 hc y z hx) (fun σ2 w => by
      obtain ⟨σ1, σ3, b1, b2, b3, b4, b5⟩ := M_ins w ho x y z
      obtain ⟨σ4, d1, d2⟩ := MV_yes w ho (by have := h.2.1.2.1; omega) b5 (to := c + 1) q.1 fw fd
      refine ⟨σ4, ?_, d2⟩
      rw [hm]
      unfold m_wrap
      rw [b1, bn_q, b2, b3, bn_q, b4, nI_1, d1, bn_q]; rfl)
    refine ⟨1, σ2, σ4, ?_, rfl, a3, _, _, _, _, _, _, _, Nat.le_refl _, a4⟩
    unfold f_Be_wrapTyped f_Be_wrapTyped_J21
    rw [ty, bn_q, if_neg (by decide), IV_present h, bn_q, gd_t (IV_p h)]
    rw [show f_Pr_hasRoomAround p 1 σ = _ from room, bn_q, if_pos q, if_neg (by decide), a1, bn_q, gd_t (decide_eq_true (Nat.mod_lt _ (by decide)))]
    rw [show f_Pr_wrap ((p + 1) % 17) x y z σ1 = some ((), σ2) from a2, bn_q]
  · obtain ⟨σ4, a1, a2⟩ := IV_no h (mop := mop) (by
      obtain ⟨σ1, σ3, b1, b2, b3, b4, b5⟩ := M_ins h.2.2.1 ho x y z
      obtain ⟨σ4, d1, d2⟩ := MV_no (nI (c + 1)) h.2.2.1 ho h.2.1.2.1 b5 (by omega) fw (fun z => q ⟨z.1, (mxd_11 w1).mpr (ff.mp z.2)⟩)
      refine ⟨σ4, ?_, d2⟩
      rw [hm]
      unfold m_wrap
      rw [b1, bn_q, b2, b3, bn_q, b4, nI_1, d1, bn_q]; rfl)
    refine ⟨0, σ, σ4, ?_, rfl, a1, _, _, _, _, _, _, _, Nat.le_succ _, a2⟩
    unfold f_Be_wrapTyped f_Be_wrapTyped_J21
    rw [ty, bn_q, if_neg (by decide), IV_present h, bn_q, gd_t (IV_p h)]
    rw [show f_Pr_hasRoomAround p 1 σ = _ from room, bn_q, if_neg q, if_pos rfl]
theorem wrap_no {x y : Int32} {z : Int64} (hz : ¬ okT z) : f_Be_wrapTyped x y z σ = some (0, σ) := by
  obtain ⟨u, hu, e⟩ := wb_of z
  unfold f_Be_wrapTyped f_Be_wrapTyped_J21
  rw [e] at hz ⊢
  rw [(s_Ty_isType hu σ).2 hz, bn_q, if_pos rfl]
theorem mo_isType (z : Int64) (s : Mem) : (okT z → f_Mo_isType z s = some (1, s)) ∧ (¬ okT z → f_Mo_isType z s = some (0, s)) := by
  obtain ⟨u, hu, e⟩ := wb_of z
  rw [e]
  exact s_Mo_isType hu s
theorem ok_claim {k : Nat} (hk : k < 900) (hI : Inv TY PC PM k σ) (z : Int64) : Ok TY PC PM (k + 1) σ (f_Be_claim z) (f_Mo_claim z) := by
  obtain ⟨⟨n, c, K, F, T⟩, p, kp, pb, ch, Hs, Ps, hk2, h⟩ := id hI
  by_cases hz : okT z
  · obtain ⟨r, σ1, σ2, a1, a2, a3, a4⟩ := IV_wrap h (by omega) (x := 6) (y := 0) (z := z) (by decide) (by unfold isK; decide) (fun q => absurd q (by decide)) hz (mop := f_Mo_claim z) (fun s => by
      unfold f_Mo_claim m_wrap
      rw [(mo_isType z s).1 hz, bn_q, if_neg (by decide)])
    refine ⟨r, σ1, σ2, ?_, a3, Inv_up a4 (by omega)⟩
    unfold f_Be_claim
    rw [a1, bn_q, gd_t a2]
  · refine Ok_same hI (r := 0) ?_ ?_
    · unfold f_Be_claim
      rw [wrap_no hz, bn_q]; rfl
    · unfold f_Mo_claim
      rw [(mo_isType z σ).2 hz, bn_q, if_pos rfl]
theorem ok_function {k : Nat} (hk : k < 900) (hI : Inv TY PC PM k σ) (x : Int32) (z : Int64) : Ok TY PC PM (k + 1) σ (f_Be_function x z) (f_Mo_function x z) := by
  obtain ⟨⟨n, c, K, F, T⟩, p, kp, pb, ch, Hs, Ps, hk2, h⟩ := id hI
  by_cases a : x < 0
  · refine Ok_same hI (r := 0) ?_ ?_
    · unfold f_Be_function
      rw [s_isName, if_pos a, bn_q, if_pos rfl]
    · unfold f_Mo_function f_Mo_function_J17
      rw [if_pos a]
  by_cases b : 9 < x
  · refine Ok_same hI (r := 0) ?_ ?_
    · unfold f_Be_function
      rw [s_isName, if_neg a, if_pos b, bn_q, if_pos rfl]
    · unfold f_Mo_function f_Mo_function_J17
      rw [if_neg a, if_pos b]
  have b' : x ≤ 9 := i32_nlt b
  have bf : f_Be_function x z σ = bn (f_Be_wrapTyped 5 x z σ) fun (r6 : Int32) (σ5 : Mem) => gd (isB r6) (some (r6, σ5)) := by
    unfold f_Be_function
    rw [s_isName, if_neg a, if_neg b, bn_q, if_neg (by decide)]
  by_cases hz : okT z
  · obtain ⟨r, σ1, σ2, a1, a2, a3, a4⟩ := IV_wrap h (by omega) (x := 5) (y := x) (z := z) (by decide) (by unfold isK; decide) (fun _ => nm_of a b') hz (mop := f_Mo_function x z) (fun s => by
      unfold f_Mo_function m_wrap
      rw [if_neg a, if_neg b, (mo_isType z s).1 hz, bn_q, if_neg (by decide)])
    refine ⟨r, σ1, σ2, ?_, a3, Inv_up a4 (by omega)⟩
    rw [bf, a1, bn_q, gd_t a2]
  · refine Ok_same hI (r := 0) ?_ ?_
    · rw [bf, wrap_no hz, bn_q]; rfl
    · unfold f_Mo_function f_Mo_function_J17
      rw [if_neg a, if_neg b, (mo_isType z σ).2 hz, bn_q, if_pos rfl]
end WRAPS
