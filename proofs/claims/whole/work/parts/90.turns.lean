/-! the reference runs a term: its turns -/
section TURNS
variable {n : Nat} {K F M : Nat → Int32} {T : Nat → Int64}
theorem done_no {σ : Mem} {r a c : Nat} (hn : n ≤ 40) (hr : r < 61) (hM : MRm n K F T M σ) (hT : Top r a c σ) (ha : a < n) (hm : M a = 0) (hk : K a = 3 ∨ K a = 4 ∨ K a = 6) : f_Mo_isDone (nI r) σ = some (0, σ) := by
  unfold f_Mo_isDone
  rw [gd_t (inb_nI hr (by decide)), nI_cl (by omega), hT.1, lt_q, gd_t (inb_nI (by omega) (by decide)), nI_cl (by omega), (hM.1 a ha).1, lt_q, gd_t (inb_nI (by omega) (by decide)), hM.2 a ha, if_pos hm]
  rcases hk with q | q | q <;> rw [q, if_neg (by decide), if_neg (by decide), if_neg (by decide), if_neg (by decide)]
theorem done_dark {σ : Mem} {r a c : Nat} (hn : n ≤ 40) (hr : r < 61) (hM : MRm n K F T M σ) (hT : Top r a c σ) (ha : a < n) (hm : ¬ M a = 0 ∨ K a = 0) : f_Mo_isDone (nI r) σ = some (1, vS σ (2, 0, 0)) := by
  unfold f_Mo_isDone f_Mo_isDone_J27 f_Mo_isDone_J103
  rw [gd_t (inb_nI hr (by decide)), nI_cl (by omega), hT.1, lt_q, gd_t (inb_nI (by omega) (by decide)), nI_cl (by omega), (hM.1 a ha).1, lt_q, gd_t (inb_nI (by omega) (by decide)), hM.2 a ha, s_vdark, bn_q]
  by_cases z : M a = 0
  · rcases hm with hm | hm
    · exact absurd z hm
    · rw [if_pos z, if_pos hm]
  · rw [if_neg z]
theorem done_num {σ : Mem} {r a c : Nat} (hn : n ≤ 40) (hr : r < 61) (hM : MRm n K F T M σ) (hT : Top r a c σ) (ha : a < n) (hm : M a = 0) (hk : K a = 1) : f_Mo_isDone (nI r) σ = some (1, vS σ (0, F a, 0)) := by
  unfold f_Mo_isDone f_Mo_isDone_J103
  have e : f_Mo_value 0 (F a) 0 σ = some ((), vS σ (0, F a, 0)) := s_val σ (0, F a, 0)
  rw [gd_t (inb_nI hr (by decide)), nI_cl (by omega), hT.1, lt_q, gd_t (inb_nI (by omega) (by decide)), nI_cl (by omega), (hM.1 a ha).1, lt_q, gd_t (inb_nI (by omega) (by decide)), hM.2 a ha, if_pos hm, hk, if_neg (by decide), if_pos rfl, gd_t (inb_nI (by omega) (by decide)), (hM.1 a ha).2.1 (Or.inl hk), e, bn_q]
theorem done_fun {σ : Mem} {r a c : Nat} (hn : n ≤ 40) (hr : r < 61) (hM : MRm n K F T M σ) (hT : Top r a c σ) (ha : a < n) (hm : M a = 0) (hk : K a = 5) : f_Mo_isDone (nI r) σ = some (1, vS σ (1, nI a, c)) := by
  unfold f_Mo_isDone f_Mo_isDone_J103
  have e : f_Mo_value 1 (nI a) (nI c) σ = some ((), vS σ (1, nI a, c)) := s_val σ (1, nI a, c)
  rw [gd_t (inb_nI hr (by decide)), nI_cl (show r < 2 ^ 31 by omega), hT.1, lt_q, gd_t (inb_nI (by omega) (by decide)), nI_cl (show a < 2 ^ 31 by omega), (hM.1 a ha).1, lt_q, gd_t (inb_nI (by omega) (by decide)), hM.2 a ha, if_pos hm, hk, if_neg (by decide), if_neg (by decide), if_neg (by decide), if_pos rfl, gd_t (inb_nI hr (by decide)), hT.2.1, e, bn_q]
theorem done_name {σ : Mem} {s : Sr} {r a c : Nat} (hn : n ≤ 40) (hr : r < 61) (hM : MRm n K F T M σ) (hT : Top r a c σ) (ha : a < n) (hm : M a = 0) (hk : K a = 2) (hs : sS n K s) (hB : s.2.1 ≤ 400) (hR : RepM σ s) (hc : c ≤ s.2.1) (hd : Dp s.2.2.2.2 11 c) : f_Mo_isDone (nI r) σ = some (1, vS σ (lk s (F a) 12 c)) := by
  unfold f_Mo_isDone f_Mo_isDone_J103
  have e : f_Mo_lookUp (F a) (nI c) σ = some ((), vS σ (lk s (F a) 12 c)) := lp_FU (s_look hs hB hR (F a) (nI c) 11 12 c (by decide) hc hd) (by decide)
  rw [gd_t (inb_nI hr (by decide)), nI_cl (show r < 2 ^ 31 by omega), hT.1, lt_q, gd_t (inb_nI (by omega) (by decide)), nI_cl (show a < 2 ^ 31 by omega), (hM.1 a ha).1, lt_q, gd_t (inb_nI (by omega) (by decide)), hM.2 a ha, if_pos hm, hk, if_neg (by decide), if_neg (by decide), if_pos rfl, gd_t (inb_nI (by omega) (by decide)), gd_t (inb_nI hr (by decide)), (hM.1 a ha).2.1 (Or.inr (Or.inl hk)), hT.2.1, e, bn_q]
theorem st_leaf {σ σ1 : Mem} {r a c : Nat} (hr : r < 61) (hT : Top r a c σ) (hd : f_Mo_isDone (nI r) σ = some (1, σ1)) : f_Mo_run_L33 1 0 σ = some (.inl (1, 1, sI (sI σ1 34 r 1) 15 26 (nI r))) := by
  unfold f_Mo_run_L33 f_Mo_run_J89 f_Mo_run_J113 f_Mo_run_J118 f_Mo_run_J271
  rw [if_neg (by decide), hT.2.2, if_neg (nI_nle (by omega) (by omega)), nI_pred, lt_q, gd_t (inb_nI hr (by decide)), nI_cl (by omega), lt_q, if_pos rfl, hd, bn_q, gd_t (inb_nI hr (by decide)), lt_q, if_neg (by decide), lt_q, if_neg (by decide)]
theorem fl_01 {α : Type} {fl : Int32} (h : fl = 0 ∨ fl = 1) (f : Int32 → α) : (if fl = 0 then f 0 else f 1) = f fl := by
  rcases h with h | h
  · rw [h, if_pos rfl]
  · rw [h, if_neg (by decide)]
theorem st_open {σ σe : Mem} {r a c : Nat} {fl : Int32} (hr : r < 61) (hT : Top r a c σ) (hd : f_Mo_isDone (nI r) σ = some (0, σ)) (he : f_Mo_enter (nI (a + 1)) (nI c) (sI (sI σ 34 r 1) 15 26 (nI (r + 1))) = some (fl, σe)) (hf : fl = 0 ∨ fl = 1) : f_Mo_run_L33 1 0 σ = some (.inl (fl, 0, σe)) := by
  obtain ⟨σ2, e2⟩ : ∃ y, y = sI σ 34 r 1 := ⟨_, rfl⟩
  have c26 : σ2.1 15 26 = nI (r + 1) := by rw [e2, rI_ne (by decide)]; exact hT.2.2
  rw [← e2] at he
  obtain ⟨σ3, e3⟩ : ∃ y, y = sI σ2 15 26 (nI (r + 1)) := ⟨_, rfl⟩
  have c35 : σ3.1 35 r = nI c := by rw [e3, rI_ne (by decide), e2, rI_ne (by decide)]; exact hT.2.1
  rw [← e3] at he
  have J : f_Mo_run_J89 1 0 (nI r) (nI a) (nI (r + 1)) σ2 = some (.inl (fl, 0, σe)) := by
    unfold f_Mo_run_J89 f_Mo_run_J113 f_Mo_run_J118 f_Mo_run_J271
    rw [← e3, lt_q, if_pos rfl, gd_t (inb_nI hr (by decide)), nI_cl (by omega), c35, nI_1, he, bn_q]
    exact fl_01 (α := Option ((Int32 × Int32 × Mem) ⊕ (Int32 × Mem))) hf (fun x => some (.inl (x, 0, σe)))
  unfold f_Mo_run_L33
  rw [if_neg (by decide), hT.2.2, if_neg (nI_nle (by omega) (by omega)), nI_pred, lt_q, gd_t (inb_nI hr (by decide)), nI_cl (by omega), hT.1, lt_q, if_pos rfl, hd, bn_q, gd_t (inb_nI hr (by decide)), ← e2, lt_q, if_pos rfl, c26, J]
theorem st_pop {σ : Mem} {r a c : Nat} (hn : n ≤ 40) (hr : r < 61) (hM : MRm n K F T M σ) (hT : Top r a c σ) (ha : a < n) (h2 : ¬ σ.1 34 r = 2) (h1 : σ.1 34 r = 1 → K a = 6) : f_Mo_run_L33 1 1 σ = some (.inl (1, 1, sI σ 15 26 (nI r))) := by
  have J : f_Mo_run_J155 1 1 (nI r) (nI a) σ = some (.inl (1, 1, sI σ 15 26 (nI r))) := by
    unfold f_Mo_run_J155 f_Mo_run_J220 f_Mo_run_J249 f_Mo_run_J266 f_Mo_run_J271
    rw [gd_t (inb_nI hr (by decide)), nI_cl (by omega), if_neg h2, gd_t (inb_nI hr (by decide)), if_neg h2, gd_t (inb_nI hr (by decide)), if_neg h2, lt_q]
  unfold f_Mo_run_L33
  rw [if_neg (by decide), hT.2.2, if_neg (nI_nle (by omega) (by omega)), nI_pred, lt_q, gd_t (inb_nI hr (by decide)), nI_cl (show r < 2 ^ 31 by omega), hT.1, lt_q, if_neg (by decide), gd_t (inb_nI hr (by decide)), gd_t (inb_nI (by omega) (by decide)), nI_cl (show a < 2 ^ 31 by omega), (hM.1 a ha).1, J]
  by_cases z : σ.1 34 r = 1
  · rw [if_pos z, if_pos (h1 z)]
  · rw [if_neg z]
theorem st_second {σ σ' : Mem} {r a c : Nat} {fl : Int32} (hn : n ≤ 40) (hr : r < 61) (hM : MRm n K F T M σ) (hT : Top r a c σ) (ha : a < n) (h1 : σ.1 34 r = 1) (h6 : ¬ K a = 6) (hs : f_Mo_second (nI r) σ = some (fl, σ')) : f_Mo_run_L33 1 1 σ = some (.inl (fl, 0, σ')) := by
  unfold f_Mo_run_L33 f_Mo_run_J271
  rw [if_neg (by decide), hT.2.2, if_neg (nI_nle (by omega) (by omega)), nI_pred, lt_q, gd_t (inb_nI hr (by decide)), nI_cl (show r < 2 ^ 31 by omega), hT.1, lt_q, if_neg (by decide), gd_t (inb_nI hr (by decide)), if_pos h1, gd_t (inb_nI (by omega) (by decide)), nI_cl (show a < 2 ^ 31 by omega), (hM.1 a ha).1, if_neg h6, lt_q, hs, bn_q]
theorem st_2 {σ : Mem} {r a c : Nat} (hr : r < 61) (hT : Top r a c σ) (h2 : σ.1 34 r = 2) : f_Mo_run_L33 1 1 σ = f_Mo_run_J155 1 1 (nI r) (nI a) σ := by
  unfold f_Mo_run_L33
  rw [if_neg (by decide), hT.2.2, if_neg (nI_nle (by omega) (by omega)), nI_pred, lt_q, gd_t (inb_nI hr (by decide)), nI_cl (show r < 2 ^ 31 by omega), hT.1, lt_q, if_neg (by decide), gd_t (inb_nI hr (by decide)), h2, if_neg (by decide)]
theorem st_add {σ σ9 : Mem} {r a c : Nat} (hn : n ≤ 40) (hr : r < 61) (hM : MRm n K F T M σ) (hT : Top r a c σ) (ha : a < n) (h2 : σ.1 34 r = 2) (hk : K a = 3) (hs : f_Mo_add (nI r) σ = some ((), σ9)) : f_Mo_run_L33 1 1 σ = some (.inl (1, 1, sI σ9 15 26 (nI r))) := by
  rw [st_2 hr hT h2]
  unfold f_Mo_run_J155
  rw [gd_t (inb_nI hr (by decide)), nI_cl (by omega), if_pos h2, gd_t (inb_nI (by omega) (by decide)), nI_cl (show a < 2 ^ 31 by omega), (hM.1 a ha).1, hk, if_neg (by decide)]
  unfold f_Mo_run_J220 f_Mo_run_J266 f_Mo_run_J271
  rw [gd_t (inb_nI hr (by decide)), nI_cl (show r < 2 ^ 31 by omega), if_pos h2, gd_t (inb_nI (by omega) (by decide)), nI_cl (show a < 2 ^ 31 by omega), (hM.1 a ha).1, hk, if_pos rfl, hs, bn_q, lt_q]
theorem st_dark {σ : Mem} {r a c : Nat} (hn : n ≤ 40) (hr : r < 61) (hM : MRm n K F T M σ) (hT : Top r a c σ) (ha : a < n) (h2 : σ.1 34 r = 2) (hk : K a = 4) (h36 : ¬ σ.1 36 r = 1) : f_Mo_run_L33 1 1 σ = some (.inl (1, 1, sI (vS σ (2, 0, 0)) 15 26 (nI r))) := by
  rw [st_2 hr hT h2]
  unfold f_Mo_run_J155
  rw [gd_t (inb_nI hr (by decide)), nI_cl (show r < 2 ^ 31 by omega), if_pos h2, gd_t (inb_nI (by omega) (by decide)), nI_cl (show a < 2 ^ 31 by omega), (hM.1 a ha).1, if_pos hk, gd_t (inb_nI hr (by decide)), if_neg h36]
  unfold f_Mo_run_J220
  rw [gd_t (inb_nI hr (by decide)), nI_cl (show r < 2 ^ 31 by omega), if_pos h2, gd_t (inb_nI (by omega) (by decide)), nI_cl (show a < 2 ^ 31 by omega), (hM.1 a ha).1, hk, if_neg (by decide)]
  unfold f_Mo_run_J249 f_Mo_run_J266 f_Mo_run_J271
  rw [gd_t (inb_nI hr (by decide)), nI_cl (show r < 2 ^ 31 by omega), if_pos h2, s_vdark, bn_q, lt_q]
theorem st_call {σ σ17 σ21 : Mem} {r a c b : Nat} {rb fl : Int32} (hn : n ≤ 40) (hr : r < 61) (hM : MRm n K F T M σ) (hT : Top r a c σ) (ha : a < n) (h2 : σ.1 34 r = 2) (hk : K a = 4) (h36 : σ.1 36 r = 1) (hb : f_Mo_bind (nI r) (sI σ 34 r 3) = some (rb, σ17)) (h37 : σ17.1 37 r = nI b) (he : f_Mo_enter (nI (b + 1)) rb σ17 = some (fl, σ21)) : f_Mo_run_L33 1 1 σ = some (.inl (fl, 0, σ21)) := by
  rw [st_2 hr hT h2]
  unfold f_Mo_run_J155
  rw [gd_t (inb_nI hr (by decide)), nI_cl (show r < 2 ^ 31 by omega), if_pos h2, gd_t (inb_nI (by omega) (by decide)), nI_cl (show a < 2 ^ 31 by omega), (hM.1 a ha).1, if_pos hk, gd_t (inb_nI hr (by decide)), if_pos h36, lt_q, gd_t (inb_nI hr (by decide)), lt_q, hb, bn_q, gd_t (inb_nI hr (by decide)), h37, nI_1, he, bn_q]
  unfold f_Mo_run_J271
  rfl
/-- the first value is laid by, the second part is to be run -/
def s8 (σ : Mem) (r : Nat) (v : Vl) : Mem := sI (sI (sI (sI σ 36 r (nI v.1)) 37 r v.2.1) 38 r (nI v.2.2)) 34 r 2
theorem s8_c (σ : Mem) (r : Nat) (v : Vl) : (∀ c, c ≠ 34 → c ≠ 36 → c ≠ 37 → c ≠ 38 → (s8 σ r v).1 c = σ.1 c) ∧ (s8 σ r v).1 34 r = 2 ∧ (s8 σ r v).1 36 r = nI v.1 ∧ (s8 σ r v).1 37 r = v.2.1 ∧ (s8 σ r v).1 38 r = nI v.2.2 := by
  unfold s8
  refine ⟨fun c h1 h2 h3 h4 => by rw [rI_ne h1, rI_ne h4, rI_ne h3, rI_ne h2], by rw [rI_at, pk_us], ?_, ?_, ?_⟩
  · rw [rI_ne (by decide), rI_ne (by decide), rI_ne (by decide), rI_at, pk_us]
  · rw [rI_ne (by decide), rI_ne (by decide), rI_at, pk_us]
  · rw [rI_ne (by decide), rI_at, pk_us]
theorem s8_FM (σ : Mem) (r : Nat) (v : Vl) : FM r σ (s8 σ r v) := FM_tr (FM_tr (FM_tr (FM_c σ _ (by decide) (by decide) (Nat.le_refl _)) (FM_c _ _ (by decide) (by decide) (Nat.le_refl _))) (FM_c _ _ (by decide) (by decide) (Nat.le_refl _))) (FM_c _ _ (by decide) (by decide) (Nat.le_refl _))
theorem s8_Rep {σ : Mem} {s : Sr} (h : RepM σ s) (r : Nat) (v : Vl) : RepM (s8 σ r v) s := RepM_c (RepM_c (RepM_c (RepM_c h _ _ (by decide) (by decide)) _ _ (by decide) (by decide)) _ _ (by decide) (by decide)) _ _ (by decide) (by decide)
theorem isB_01 {fl : Int32} (h : fl = 0 ∨ fl = 1) : isB fl = true := by
  rcases h with h | h <;> (rw [h]; decide)
theorem s_second {σ σ' : Mem} {r a c : Nat} {v : Vl} {fl : Int32} (hn : n ≤ 40) (hwf : wf K n) (hr : r < 61) (hM : MRm n K F T M σ) (hT : Top r a c σ) (ha : a + 1 < n) (hv : VR σ v) (he : f_Mo_enter (nI (eN K (a + 1))) (nI c) (s8 σ r v) = some (fl, σ')) (hf : fl = 0 ∨ fl = 1) : f_Mo_second (nI r) σ = some (fl, σ') := by
  obtain ⟨v1, v2, v3⟩ := hv
  obtain ⟨σ2, e2⟩ : ∃ y, y = sI σ 36 r (nI v.1) := ⟨_, rfl⟩
  obtain ⟨σ4, e4⟩ : ∃ y, y = sI σ2 37 r v.2.1 := ⟨_, rfl⟩
  obtain ⟨σ6, e6⟩ : ∃ y, y = sI σ4 38 r (nI v.2.2) := ⟨_, rfl⟩
  have e8 : s8 σ r v = sI σ6 34 r 2 := by rw [e6, e4, e2]; rfl
  obtain ⟨k1, k2⟩ := s8_c σ r v
  have c2 : σ2.1 15 = σ.1 15 := by rw [e2, rI_ne (by decide)]
  have c4 : σ4.1 15 = σ.1 15 := by rw [e4, rI_ne (by decide), c2]
  have M8 : MRm n K F T M (s8 σ r v) := MRm_F hM (s8_FM σ r v)
  have hp := s_Mo_part (σ := s8 σ r v) (K := K) (n := n) (by omega) (fun j hj => (M8.1 j hj).1) hwf (a := a) 1 ha
  rw [if_neg (show ¬ (1 : Int32) = 0 by decide)] at hp
  unfold f_Mo_second
  rw [gd_t (inb_nI hr (by decide)), nI_cl (show r < 2 ^ 31 by omega), v1, ← e2, lt_q, gd_t (inb_nI hr (by decide)), c2, v2, ← e4, lt_q, gd_t (inb_nI hr (by decide)), c4, v3, ← e6, lt_q, gd_t (inb_nI hr (by decide)), ← e8, lt_q, gd_t (inb_nI hr (by decide)), k1 33 (by decide) (by decide) (by decide) (by decide), hT.1, hp, bn_q, gd_t (inb_nI hr (by decide)), k1 35 (by decide) (by decide) (by decide) (by decide), hT.2.1, he, bn_q, gd_t (isB_01 hf)]
theorem s_add {σ : Mem} {r : Nat} {v w : Vl} (hr : r < 61) (hv4 : v.1 < 4) (hw4 : w.1 < 4) (h36 : σ.1 36 r = nI v.1) (h37 : σ.1 37 r = v.2.1) (hw : VR σ w) : f_Mo_add (nI r) σ = some ((), vS σ (addV v w)) := by
  obtain ⟨w1, w2, w3⟩ := hw
  unfold f_Mo_add f_Mo_add_J20 f_Mo_add_J21 f_Mo_add_J32 f_Mo_add_J51 addV
  rw [w1, gd_t (inb_nI hr (by decide)), nI_cl (show r < 2 ^ 31 by omega), h36]
  by_cases q1 : w.1 = 0
  · rw [if_pos ((nI_zr hw4).mpr q1)]
    by_cases q2 : v.1 = 0
    · have e : f_Mo_value 0 (v.2.1 + w.2.1) 0 σ = some ((), vS σ (0, v.2.1 + w.2.1, 0)) := s_val σ (0, v.2.1 + w.2.1, 0)
      rw [if_pos ((nI_zr hv4).mpr q2), if_neg (by decide), if_neg (by decide), gd_t (inb_nI hr (by decide)), h37, w2, e, bn_q, if_pos ⟨q2, q1⟩]
    · rw [if_neg (fun z => q2 ((nI_zr hv4).mp z)), if_pos rfl, if_pos rfl, s_vdark, bn_q, if_neg (fun z => q2 z.1)]
  · rw [if_neg (fun z => q1 ((nI_zr hw4).mp z)), if_pos rfl, if_pos rfl, s_vdark, bn_q, if_neg (fun z => q1 z.2)]
end TURNS
