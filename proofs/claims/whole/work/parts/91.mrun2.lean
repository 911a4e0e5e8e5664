/-! the reference runs a term -/
abbrev Br : Int32 × Int32 × Mem → Option ((Int32 × Int32 × Mem) ⊕ (Int32 × Mem)) := fun q => f_Mo_run_L33 q.1 q.2.1 q.2.2
/-- what a run of the reference's turns does: the run ends, or a value comes back -/
def RN (r : Nat) (s : Sr) (σ σe : Mem) (fl : Int32) (R : Vl × Sr) : Prop := (R.1.1 = 3 → ∃ t σ', t ≤ 4 * (R.2.1 - s.1) + 1 ∧ loopF Br t (fl, 0, σe) = some (3, σ') ∧ FM r σ σ' ∧ σ'.1 15 24 = nI R.2.1) ∧ (¬ R.1.1 = 3 → fl = 1 ∧ ∃ t σ', t ≤ 4 * (R.2.1 - s.1) ∧ FM r σ σ' ∧ RepM σ' R.2 ∧ VR σ' R.1 ∧ σ'.1 15 26 = nI r ∧ ∀ k z, loopF Br k (1, 1, σ') = some z → loopF Br (k + t) (1, 0, σe) = some z)
theorem br_step {a b : Int32 × Int32 × Mem} {z : Int32 × Mem} {k : Nat} (h : f_Mo_run_L33 a.1 a.2.1 a.2.2 = some (.inl b)) (h2 : loopF Br k b = some z) : loopF Br (k + 1) a = some z := lp_step (body := Br) h h2
theorem br_0 (σ : Mem) : loopF Br 1 (0, 0, σ) = some (3, σ) := by
  refine lp_exit (body := Br) ?_
  show f_Mo_run_L33 0 0 σ = _
  unfold f_Mo_run_L33 f_Mo_run_J274
  rw [if_pos rfl, if_pos rfl]
  rfl
theorem Top_F {r a c : Nat} {σ σ' : Mem} (h : Top r a c σ) (hf : FM (r + 1) σ σ') (h26 : σ'.1 15 26 = nI (r + 1)) : Top r a c σ' := ⟨by rw [hf.2.2 33 (by decide) (by decide) r (by omega)]; exact h.1, by rw [hf.2.2 35 (by decide) (by decide) r (by omega)]; exact h.2.1, h26⟩
section MRUN2
variable {n : Nat} {K F M : Nat → Int32} {T : Nat → Int64}
theorem VR_26 {σ : Mem} {v : Vl} (h : VR σ v) (x : Int32) : VR (sI σ 15 26 x) v := ⟨by rw [rI_at, pk_un (by decide)]; exact h.1, by rw [rI_at, pk_un (by decide)]; exact h.2.1, by rw [rI_at, pk_un (by decide)]; exact h.2.2⟩
theorem R_run (hn : n ≤ 40) (hwf : wf K n) (hk : okK n K F T) (hdp : ∀ j, j < n → dp K j ≤ 11) : ∀ (g a c r : Nat) (s : Sr) (σ : Mem), eI n K a c s → g + r = 60 → MRm n K F T M σ → RepM σ s → σ.1 15 26 = nI r → ∃ fl σe, f_Mo_enter (nI a) (nI c) σ = some (fl, σe) ∧ (fl = 0 ∨ fl = 1) ∧ RN r s σ σe fl (ev K F M g a c s) := by
  intro g
  induction g with
  | zero =>
    intro a c r s σ hI hg hM hR h26
    exact ⟨0, σ, s_enter_no (by omega) h26 hR (Or.inl (by omega)) a c, Or.inl rfl, fun _ => ⟨1, σ, by omega, br_0 σ, FM_rf r σ, hR.1⟩, fun z => absurd rfl z⟩
  | succ g ih =>
    intro a c r s σ hI hg hM hR h26
    have ha := hI.1
    have hc := hI.2.1
    have h4 := hI.2.2.2.1
    have hB3 := hI.2.2.2.2.1
    have eE : ev K F M (g + 1) a c s = if s.1 = 400 then ((3, 0, 0), s) else evK K F M (ev K F M g) a c (tick s) := rfl
    rw [eE]
    by_cases z4 : s.1 = 400
    · rw [if_pos z4]
      exact ⟨0, σ, s_enter_no (by omega) h26 hR (Or.inr z4) a c, Or.inl rfl, fun _ => ⟨1, σ, by omega, br_0 σ, FM_rf r σ, hR.1⟩, fun z => absurd rfl z⟩
    rw [if_neg z4]
    obtain ⟨σe, en1, en2, en3, en4, en5⟩ := s_enter (by omega) h26 hR (by omega) a c
    refine ⟨1, σe, en1, Or.inr rfl, ?_⟩
    obtain ⟨ht, h31⟩ := eI_tick hI z4
    obtain ⟨t, et⟩ : ∃ t, t = tick s := ⟨_, rfl⟩
    rw [← et] at ht h31 en3 ⊢
    have tU : t.1 = s.1 + 1 := by rw [et]; rfl
    have Me := MRm_F hM en2
    have hr61 : r < 61 := by omega
    -- a term that is done at once
    have leaf : ∀ (v : Vl), ¬ v.1 = 3 → f_Mo_isDone (nI r) σe = some (1, vS σe v) → RN r s σ σe 1 (v, t) := fun v hv hd => by
      refine ⟨fun z => absurd z hv, fun _ => ⟨rfl, 1, sI (sI (vS σe v) 34 r 1) 15 26 (nI r), by show 1 ≤ 4 * (t.1 - s.1); omega, ?_, ?_, ?_, ?_, fun k z hz => br_step (a := (1, 0, σe)) (st_leaf hr61 en4 hd) hz⟩⟩
      · exact FM_tr en2 (FM_tr (vS_FM r σe v) (FM_tr (FM_c _ _ (by decide) (by decide) (Nat.le_refl _)) (FM_15 r _ _ (by unfold o15; omega))))
      · exact RepM_15 (RepM_c (vS_Rep en3 v) _ _ (by decide) (by decide)) _ (by decide) (by decide)
      · refine VR_26 ?_ _
        unfold VR
        rw [rI_ne (by decide)]
        exact vS_VR σe v
      · rw [rI_at, pk_us]
    unfold evK
    by_cases hm' : ¬ M a = 0
    · rw [if_pos hm']
      exact leaf _ (by decide) (done_dark hn hr61 Me en4 ha (Or.inl hm'))
    rw [if_neg hm']
    have hm : M a = 0 := Decidable.of_not_not hm'
    by_cases k1 : K a = 1
    · rw [if_pos k1]
      exact leaf _ (show ¬ (0 : Nat) = 3 by decide) (done_num hn hr61 Me en4 ha hm k1)
    rw [if_neg k1]
    by_cases k2 : K a = 2
    · rw [if_pos k2]
      refine leaf _ (fun z => ?_) (done_name hn hr61 Me en4 ha hm k2 ht.2.2.2.2.2 (by omega) en3 ht.2.1 (Dp_mono ht.2.2.1 (hdp a ha)))
      rcases lk_ok ht.2.2.2.2.2 (F a) 12 c ht.2.1 with q | q | q <;> omega
    rw [if_neg k2]
    -- a term that opens its first part
    obtain ⟨σo, eo⟩ : ∃ y, y = sI (sI σe 34 r 1) 15 26 (nI (r + 1)) := ⟨_, rfl⟩
    have Fo : FM r σe σo := by rw [eo]; exact FM_tr (FM_c _ _ (by decide) (by decide) (Nat.le_refl _)) (FM_15 r _ _ (by unfold o15; omega))
    have Mo := MRm_F Me Fo
    have Ro : RepM σo t := by rw [eo]; exact RepM_15 (RepM_c en3 _ _ (by decide) (by decide)) _ (by decide) (by decide)
    have o26 : σo.1 15 26 = nI (r + 1) := by rw [eo, rI_at, pk_us]
    have To : Top r a c σo := ⟨by rw [eo, rI_ne (by decide), rI_ne (by decide)]; exact en4.1, by rw [eo, rI_ne (by decide), rI_ne (by decide)]; exact en4.2.1, o26⟩
    have o34 : σo.1 34 r = 1 := by rw [eo, rI_ne (by decide), rI_at, pk_us]
    have wn := (wf_at hwf ha).2.2
    by_cases k5 : K a = 5
    · rw [if_neg (by rw [k5]; decide), if_neg (by rw [k5]; decide), if_pos k5]
      exact leaf _ (show ¬ (1 : Nat) = 3 by decide) (done_fun hn hr61 Me en4 ha hm k5)
    by_cases k0 : K a = 0
    · rw [if_neg (by rw [k0]; decide), if_neg (by rw [k0]; decide), if_neg k5, if_neg (by rw [k0]; decide)]
      exact leaf _ (by decide) (done_dark hn hr61 Me en4 ha (Or.inr k0))
    have k346 : K a = 3 ∨ K a = 4 ∨ K a = 6 := by
      rcases (hk a ha).1 with q | q | q | q | q | q | q
      · exact absurd q k0
      · exact absurd q k1
      · exact absurd q k2
      · exact Or.inl q
      · exact Or.inr (Or.inl q)
      · exact absurd q k5
      · exact Or.inr (Or.inr q)
    have ar1 : 1 ≤ ar (K a) := by rcases k346 with q | q | q <;> (rw [q]; decide)
    have a1n : a + 1 < n ∧ dp K a ≤ dp K (a + 1) := by
      rcases (by have := ar_le (K a); omega : ar (K a) = 1 ∨ ar (K a) = 2) with q | q
      · obtain ⟨w1, w2, w3⟩ := wf_ar1 hwf ha q; exact ⟨by omega, by omega⟩
      · obtain ⟨w1, w2, w3, w4, w5⟩ := wf_ar2 hwf ha q; exact ⟨by omega, by omega⟩
    have hx : eI n K (a + 1) c t := eI_part ht a1n.1 a1n.2
    have dn := done_no hn hr61 Me en4 ha hm k346
    obtain ⟨f1, σ1, x1, x2, x3⟩ := ih (a + 1) c (r + 1) t σo hx (by omega) Mo Ro o26
    have op : f_Mo_run_L33 1 0 σe = some (.inl (f1, 0, σ1)) := st_open hr61 en4 dn (by rw [← eo]; exact x1) x2
    have oA := ev_ok (F := F) (M := M) hn hwf g _ _ _ hx
    obtain ⟨A, eA⟩ : ∃ A, A = ev K F M g (a + 1) c t := ⟨_, rfl⟩
    rw [← eA] at x3 oA
    have F0o : FM r σ σo := FM_tr en2 Fo
    -- the run ends in the first part
    have spent1 : A.1.1 = 3 → RN r s σ σe 1 A := fun q => by
      refine ⟨fun _ => ?_, fun z => absurd q z⟩
      obtain ⟨m, σ', y1, y2, y3, y4⟩ := x3.1 q
      exact ⟨m + 1, σ', by have := oA.1; omega, br_step (a := (1, 0, σe)) op y2, FM_tr F0o (FM_le y3 (by omega)), y4⟩
    by_cases k6 : K a = 6
    · rw [if_neg (by rw [k6]; decide), if_neg (by rw [k6]; decide), if_neg k5, if_pos k6, ← eA]
      by_cases q1 : A.1.1 = 3
      · exact spent1 q1
      · obtain ⟨u1, m, σ2, u2, u3, u4, u5, u6, u7⟩ := x3.2 q1
        rw [u1] at op
        have T2 := Top_F To u3 u6
        have M2 := MRm_F Mo u3
        have c34 : σ2.1 34 r = 1 := by rw [u3.2.2 34 (by decide) (by decide) r (by omega)]; exact o34
        refine ⟨fun z => absurd z q1, fun _ => ⟨rfl, m + 2, sI σ2 15 26 (nI r), by have := oA.1; omega, ?_, RepM_15 u4 _ (by decide) (by decide), VR_26 u5 _, by rw [rI_at, pk_us], fun k z hz => ?_⟩⟩
        · exact FM_tr F0o (FM_tr (FM_le u3 (by omega)) (FM_15 r _ _ (by unfold o15; omega)))
        · rw [show k + (m + 2) = k + 1 + m + 1 by omega]
          refine br_step (a := (1, 0, σe)) op (u7 (k + 1) z ?_)
          exact br_step (a := (1, 1, σ2)) (st_pop hn hr61 M2 T2 ha (by rw [c34]; decide) (fun _ => k6)) hz
    -- two parts
    have a2 : ar (K a) = 2 := by
      rcases k346 with q | q | q
      · rw [q]; rfl
      · rw [q]; rfl
      · exact absurd q k6
    obtain ⟨w1, w2, w3, w4, w5⟩ := wf_ar2 hwf ha a2
    obtain ⟨o1, o2⟩ := ev2_ok (r := ev K F M g) (ev_ok (F := F) (M := M) hn hwf g) hx (y := eN K (a + 1)) (by omega) (by omega)
    rw [← eA] at o1 o2
    obtain ⟨B, eB⟩ : ∃ B, B = ev K F M g (eN K (a + 1)) c A.2 := ⟨_, rfl⟩
    rw [← eB] at o2
    -- the second part is run where the first gave a value
    have second : ¬ A.1.1 = 3 → (B.1.1 = 3 → RN r s σ σe 1 B) ∧ (¬ B.1.1 = 3 → ∃ m σ3, m ≤ 4 * (B.2.1 - s.1) - 2 ∧ FM r σ σ3 ∧ RepM σ3 B.2 ∧ VR σ3 B.1 ∧ Top r a c σ3 ∧ MRm n K F T M σ3 ∧ σ3.1 34 r = 2 ∧ σ3.1 36 r = nI A.1.1 ∧ σ3.1 37 r = A.1.2.1 ∧ σ3.1 38 r = nI A.1.2.2 ∧ (∀ k z, loopF Br k (1, 1, σ3) = some z → loopF Br (k + m) (1, 0, σe) = some z) ∧ FQ n K t A.1 B.1 B.2) := fun q1 => by
      obtain ⟨u1, m, σ2, u2, u3, u4, u5, u6, u7⟩ := x3.2 q1
      rw [u1] at op
      have T2 := Top_F To u3 u6
      have M2 := MRm_F Mo u3
      have c34 : σ2.1 34 r = 1 := by rw [u3.2.2 34 (by decide) (by decide) r (by omega)]; exact o34
      obtain ⟨p1, p2, p3, p4⟩ := o2 q1
      obtain ⟨σ8, e8⟩ : ∃ y, y = s8 σ2 r A.1 := ⟨_, rfl⟩
      obtain ⟨k8, k34, k36, k37, k38⟩ := s8_c σ2 r A.1
      have F8 : FM r σ2 σ8 := by rw [e8]; exact s8_FM σ2 r A.1
      have M8 := MRm_F M2 F8
      have R8 : RepM σ8 A.2 := by rw [e8]; exact s8_Rep u4 r A.1
      rw [← e8] at k8 k34 k36 k37 k38
      have T8 : Top r a c σ8 := ⟨by rw [k8 33 (by decide) (by decide) (by decide) (by decide)]; exact T2.1, by rw [k8 35 (by decide) (by decide) (by decide) (by decide)]; exact T2.2.1, by rw [k8 15 (by decide) (by decide) (by decide) (by decide)]; exact T2.2.2⟩
      obtain ⟨f2, σ3, y1, y2, y3⟩ := ih (eN K (a + 1)) c (r + 1) A.2 σ8 p1 (by omega) M8 R8 T8.2.2
      rw [← eB] at y3
      have sec : f_Mo_run_L33 1 1 σ2 = some (.inl (f2, 0, σ3)) := st_second hn hr61 M2 T2 ha c34 k6 (s_second hn hwf hr61 M2 T2 a1n.1 u5 (by rw [← e8]; exact y1) y2)
      have F08 : FM r σ σ8 := FM_tr F0o (FM_tr (FM_le u3 (by omega)) F8)
      have o1' := o1.1
      have p2' := p2.1
      refine ⟨fun q2 => ⟨fun _ => ?_, fun z => absurd q2 z⟩, fun q2 => ?_⟩
      · obtain ⟨m2, σ', j1, j2, j3, j4⟩ := y3.1 q2
        refine ⟨m2 + 1 + m + 1, σ', by omega, ?_, FM_tr F08 (FM_le j3 (by omega)), j4⟩
        exact br_step (a := (1, 0, σe)) op (u7 _ _ (br_step (a := (1, 1, σ2)) sec j2))
      · obtain ⟨j1, m2, σ4, j2, j3, j4, j5, j6, j7⟩ := y3.2 q2
        rw [j1] at sec
        have keep : ∀ c, 33 ≤ c → c ≤ 38 → σ4.1 c r = σ8.1 c r := fun c h1 h2 => j3.2.2 c h1 h2 r (by omega)
        have fq := p4 q2
        refine ⟨m2 + 1 + m + 1, σ4, by have := fq.2.2.2.2.1; omega, FM_tr F08 (FM_le j3 (by omega)), j4, j5, Top_F T8 j3 j6, MRm_F M8 j3, by rw [keep 34 (by decide) (by decide)]; exact k34, by rw [keep 36 (by decide) (by decide)]; exact k36, by rw [keep 37 (by decide) (by decide)]; exact k37, by rw [keep 38 (by decide) (by decide)]; exact k38, fun k z hz => ?_, fq⟩
        rw [show k + (m2 + 1 + m + 1) = k + m2 + 1 + m + 1 by omega]
        exact br_step (a := (1, 0, σe)) op (u7 _ _ (br_step (a := (1, 1, σ2)) sec (j7 k z hz)))
    have fin2 : ∀ (fin : Vl → Vl → Sr → Vl × Sr), (¬ A.1.1 = 3 → ¬ B.1.1 = 3 → RN r s σ σe 1 (fin A.1 B.1 B.2)) → RN r s σ σe 1 (ev2 (ev K F M g) (a + 1) (eN K (a + 1)) c t fin) := fun fin hf => by
      unfold ev2
      rw [← eA, ← eB]
      by_cases q1 : A.1.1 = 3
      · rw [if_pos q1]; exact spent1 q1
      · rw [if_neg q1]
        by_cases q2 : B.1.1 = 3
        · rw [if_pos q2]; exact (second q1).1 q2
        · rw [if_neg q2]; exact hf q1 q2
    have sA : A.1.1 < 4 := srt o1
    by_cases k3 : K a = 3
    · rw [if_pos k3]
      refine fin2 _ (fun q1 q2 => ?_)
      obtain ⟨m, σ3, v1, v2, v3, v4, v5, v6, v7, v8, v9, v10, v11, v12⟩ := (second q1).2 q2
      have sB : B.1.1 < 4 := srt (o2 q1).2.1
      have ad := s_add hr61 sA sB v8 v9 v4
      have st := st_add hn hr61 v6 v5 ha v7 k3 ad
      have fq5 := v12.2.2.2.2.1
      have ns : ¬ (addV A.1 B.1).1 = 3 := by
        unfold addV
        by_cases z : A.1.1 = 0 ∧ B.1.1 = 0
        · rw [if_pos z]; show ¬ (0 : Nat) = 3; decide
        · rw [if_neg z]; decide
      refine ⟨fun z => absurd z ns, fun _ => ⟨rfl, m + 1, sI (vS σ3 (addV A.1 B.1)) 15 26 (nI r), by show m + 1 ≤ 4 * (B.2.1 - s.1); omega, ?_, RepM_15 (vS_Rep v3 _) _ (by decide) (by decide), VR_26 (vS_VR _ _) _, by rw [rI_at, pk_us], fun k z hz => ?_⟩⟩
      · exact FM_tr v2 (FM_tr (vS_FM r _ _) (FM_15 r _ _ (by unfold o15; omega)))
      · rw [show k + (m + 1) = k + 1 + m by omega]
        exact v11 _ _ (br_step (a := (1, 1, σ3)) st hz)
    rw [if_neg k3]
    have k4 : K a = 4 := by
      rcases k346 with q | q | q
      · exact absurd q k3
      · exact q
      · exact absurd q k6
    rw [if_pos k4]
    refine fin2 _ (fun q1 q2 => ?_)
    obtain ⟨m, σ3, v1, v2, v3, v4, v5, v6, v7, v8, v9, v10, v11, v12⟩ := (second q1).2 q2
    obtain ⟨g1, g2, g3, g4, g5, g6, g7, g8⟩ := v12
    have tB : t.2.1 = s.2.1 := by rw [et]; rfl
    have g1' := g1.1
    unfold evC
    by_cases z1 : A.1.1 = 1
    · rw [if_pos z1]
      obtain ⟨b1, b2, b3, b4, b5, b6, b7⟩ := bnd_ok (x := F (fnA A.1)) hn hwf g2 g6 (by omega) g4 g3 z1
      obtain ⟨σ15, e15⟩ : ∃ y, y = sI σ3 34 r 3 := ⟨_, rfl⟩
      have F15 : FM r σ3 σ15 := by rw [e15]; exact FM_c _ _ (by decide) (by decide) (Nat.le_refl _)
      have M15 := MRm_F v6 F15
      have R15 : RepM σ15 B.2 := by rw [e15]; exact RepM_c v3 _ _ (by decide) (by decide)
      have V15 : VR σ15 B.1 := by unfold VR; rw [e15, rI_ne (by decide)]; exact v4
      have T15 : Top r a c σ15 := ⟨by rw [e15, rI_ne (by decide)]; exact v5.1, by rw [e15, rI_ne (by decide)]; exact v5.2.1, by rw [e15, rI_ne (by decide)]; exact v5.2.2⟩
      obtain ⟨σ17, d1, d2, d3, d4⟩ := s_bindM (r := r) (T := T) (b := fnA A.1) (o := A.1.2.2) (w := B.1) hr61 (by omega) R15 hn M15 b1 b3 (by rw [e15, rI_ne (by decide), v9]; exact b2) (by rw [e15, rI_ne (by decide)]; exact v10) V15
      have M17 := MRm_F M15 d3
      have T17 : Top r a c σ17 := ⟨by rw [d3.2.2 33 (by decide) (by decide) r hr61]; exact T15.1, by rw [d3.2.2 35 (by decide) (by decide) r hr61]; exact T15.2.1, by rw [d4]; exact T15.2.2⟩
      have c37 : σ17.1 37 r = nI (fnA A.1) := by rw [d3.2.2 37 (by decide) (by decide) r hr61, e15, rI_ne (by decide), v9]; exact b2
      have c34 : σ17.1 34 r = 3 := by rw [d3.2.2 34 (by decide) (by decide) r hr61, e15, rI_at, pk_us]
      obtain ⟨f3, σ4, y1, y2, y3⟩ := ih (fnA A.1 + 1) (B.2.2.1 + 1) (r + 1) _ σ17 b6 (by omega) M17 d2 T17.2.2
      have oC := ev_ok (F := F) (M := M) hn hwf g _ _ _ b6
      obtain ⟨C, eC⟩ : ∃ C, C = ev K F M g (fnA A.1 + 1) (B.2.2.1 + 1) (bnd B.2 (F (fnA A.1)) B.1 A.1.2.2) := ⟨_, rfl⟩
      rw [← eC] at y3 oC ⊢
      have bu : (bnd B.2 (F (fnA A.1)) B.1 A.1.2.2).1 = B.2.1 := rfl
      have call : f_Mo_run_L33 1 1 σ3 = some (.inl (f3, 0, σ4)) := st_call hn hr61 v6 v5 ha v7 k4 (by rw [v8, z1]; rfl) (by rw [← e15]; exact d1) c37 y1
      have F017 : FM r σ σ17 := FM_tr v2 (FM_tr F15 (FM_le d3 (by omega)))
      have oC1 := oC.1
      refine ⟨fun q3 => ?_, fun q3 => ?_⟩
      · obtain ⟨m2, σ', j1, j2, j3, j4⟩ := y3.1 q3
        exact ⟨m2 + 1 + m, σ', by omega, v11 _ _ (br_step (a := (1, 1, σ3)) call j2), FM_tr F017 (FM_le j3 (by omega)), j4⟩
      · obtain ⟨j1, m2, σ5, j2, j3, j4, j5, j6, j7⟩ := y3.2 q3
        rw [j1] at call
        have T5 := Top_F T17 j3 j6
        have M5 := MRm_F M17 j3
        have s34 : σ5.1 34 r = 3 := by rw [j3.2.2 34 (by decide) (by decide) r (by omega)]; exact c34
        refine ⟨rfl, m2 + 2 + m, sI σ5 15 26 (nI r), by omega, FM_tr F017 (FM_tr (FM_le j3 (by omega)) (FM_15 r _ _ (by unfold o15; omega))), RepM_15 j4 _ (by decide) (by decide), VR_26 j5 _, by rw [rI_at, pk_us], fun k z hz => ?_⟩
        rw [show k + (m2 + 2 + m) = k + 1 + m2 + 1 + m by omega]
        refine v11 _ _ (br_step (a := (1, 1, σ3)) call (j7 _ _ ?_))
        exact br_step (a := (1, 1, σ5)) (st_pop hn hr61 M5 T5 ha (by rw [s34]; decide) (fun z => by rw [s34] at z; exact absurd z (by decide))) hz
    · rw [if_neg z1]
      have st := st_dark hn hr61 v6 v5 ha v7 k4 (by rw [v8]; exact fun z => z1 ((nI_one sA).mp z))
      refine ⟨fun z => absurd z (show ¬ (2 : Nat) = 3 by decide), fun _ => ⟨rfl, m + 1, sI (vS σ3 (2, 0, 0)) 15 26 (nI r), by show m + 1 ≤ 4 * (B.2.1 - s.1); omega, ?_, RepM_15 (vS_Rep v3 _) _ (by decide) (by decide), VR_26 (vS_VR _ _) _, by rw [rI_at, pk_us], fun k z hz => ?_⟩⟩
      · exact FM_tr v2 (FM_tr (vS_FM r _ _) (FM_15 r _ _ (by unfold o15; omega)))
      · rw [show k + (m + 1) = k + 1 + m by omega]
        exact v11 _ _ (br_step (a := (1, 1, σ3)) st hz)
end MRUN2
