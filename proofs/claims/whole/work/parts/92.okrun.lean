/-! run -/
section OKRUN
variable {PC : PCt} {PM : PMt} {σ : Mem} {n c p kp pb ch : Nat} {K F : Nat → Int32} {T : Nat → Int64} {Hs Ps : Nat → Pg}
theorem X_mtype (h1 : oks (n, c, K, F, T) kp pb Hs Ps) (h2 : CV σ (n, c, K, F, T) p kp pb ch Hs Ps) (h3 : MV σ (n, c, K, F, T) kp pb Hs Ps) (h4 : TyI TYp σ (n, c, K, F, T) ch) (h5 : PgI PC PM σ (n, c, K, F, T) ch) (hch : ch ≤ 1000) (hv : σ.1 3 3 = nI ch) : ∃ σ2, f_Mo_type σ = some ((), σ2) ∧ CV σ2 (n, c, K, F, T) p kp pb ch Hs Ps ∧ MV σ2 (n, c, K, F, T) kp pb Hs Ps ∧ TyI TYp σ2 (n, c, K, F, T) ch ∧ PgI PC PM σ2 (n, c, K, F, T) ch ∧ (∀ j, j < n → σ2.1 26 j = σ.1 6 j) ∧ (∀ c, c < 15 → σ2.1 c = σ.1 c ∧ σ2.2 c = σ.2 c) := by
  rcases h4 with ⟨q1, q2⟩ | ⟨q1, q2, q3⟩
  · exact absurd hv (q1 ch (Nat.le_refl _) hch)
  rcases q3 with q3 | ⟨q3, q4⟩
  · obtain ⟨σ2, a1, a2, a3, a4⟩ := s_Mo_type (R := stC σ) h3.1 h1.1 q3 q2.1
    have g : ∀ c, ¬ mTo c → σ2.1 c = σ.1 c ∧ σ2.2 c = σ.2 c := fun c hc => a2 c hc
    have g15 : ∀ q, q ≠ 12 → σ2.1 15 q = σ.1 15 q := fun q hq => by rw [a3, pk_un hq]
    have nm : ∀ c, c < 15 ∨ 27 ≤ c → ¬ mTo c := fun c hc => by unfold mTo mT; omega
    have e3 : σ2.1 3 3 = nI ch := by rw [(g 3 (nm 3 (by omega))).1]; exact q1
    refine ⟨σ2, a1, CV_fr h2 a2 (fun c hc => nm c (by unfold cE at hc; omega)), MV_15 h3 a2 (fun c x y => by unfold mTo mT; omega) (fun q hq => g15 q (by omega)), Or.inr ⟨e3, ?_, Or.inr ⟨by rw [a3, pk_us], fun j hj => ?_⟩⟩, ?_, fun j hj => (a4 j hj).2.2, fun c hc => g c (nm c (Or.inl hc))⟩
    · rw [(g 4 (nm 4 (by omega))).2, (g 5 (nm 5 (by omega))).2, (g 6 (nm 6 (by omega))).1]; exact q2
    · rw [(g 4 (nm 4 (by omega))).2, (g 5 (nm 5 (by omega))).2, (g 6 (nm 6 (by omega))).1]; exact a4 j hj
    · exact PgI_fr h5 c (by rw [(g 7 (nm 7 (by omega))).1]) (g 8 (nm 8 (by omega))).2 (g 9 (nm 9 (by omega))).1 (g 10 (nm 10 (by omega))).1 (g 27 (nm 27 (by omega))).1 (g 28 (nm 28 (by omega))).1 (g 29 (nm 29 (by omega))).1 (g15 16 (by decide)) (g15 17 (by decide))
  · refine ⟨σ, ?_, h2, h3, Or.inr ⟨q1, q2, Or.inr ⟨q3, q4⟩⟩, h5, fun j hj => (q4 j hj).2.2, fun c _ => ⟨rfl, rfl⟩⟩
    unfold f_Mo_type
    rw [q3, if_neg (by decide)]
def s0 : Sr := (0, 0, (fun _ => 0), (fun _ => (2, 0, 0)), fun _ => 0)
theorem s0_eI (hn : 0 < n) : eI n K 0 0 s0 := ⟨hn, Nat.le_refl _, Dp_0 _ _, by decide, by decide, fun j h1 h2 => by
  have : j ≤ 0 := h2
  omega⟩
def numV (v : Vl) : Int32 := if v.1 = 0 then v.2.1 else 0
theorem s_start (hn : n ≤ 40) (hwf : wf K n) (hk : okK n K F T) (h0 : 0 < n) {M : Nat → Int32} (hC : CRm p n K F T M σ) : ∃ σ', f_Ma_start p σ = some (nI (ev K F M 60 0 0 s0).1.1, σ') ∧ fr cRn σ σ' ∧ σ'.1 11 4 = nI (ev K F M 60 0 0 s0).2.1 ∧ σ'.1 11 5 = numV (ev K F M 60 0 0 s0).1 := by
  obtain ⟨σ5, e5⟩ : ∃ y, y = sI σ 11 3 0 := ⟨_, rfl⟩
  obtain ⟨σ6, e6⟩ : ∃ y, y = sI σ5 11 4 0 := ⟨_, rfl⟩
  have f6 : fr cRn σ σ6 := by rw [e6, e5]; exact fr_tr (fr_rI _ _ (by unfold cRn; omega)) (fr_rI _ _ (by unfold cRn; omega))
  have g : ∀ c, 44 ≤ c ∨ c = 6 → σ6.1 c = σ.1 c ∧ σ6.2 c = σ.2 c := fun c a => f6 c (by unfold cRn; omega)
  have C6 : CRm p n K F T M σ6 := by
    refine ⟨?_, by rw [(g 6 (Or.inr rfl)).1]; exact hC.2⟩
    unfold RC rowC
    rw [(g (cP p) (by unfold cP; omega)).1, (g (cPk p) (by unfold cPk; omega)).1, (g (cPl p) (by unfold cPl; omega)).1, (g (cPf p) (by unfold cPf; omega)).1, (g (cPt p) (by unfold cPt; omega)).2]
    exact hC.1
  have R6 : RepC σ6 s0 := ⟨by rw [e6, rI_at, pk_un (by decide), e5, rI_at, pk_us]; rfl, by rw [e6, rI_at, pk_us]; rfl, fun j h1 h2 => by
    have : j ≤ 0 := h2
    omega⟩
  obtain ⟨σ8, a1, a2, a3⟩ := C_run hn hwf hk 60 0 0 0 s0 σ6 (s0_eI h0) rfl C6 R6
  have o := ev_ok (F := F) (M := M) hn hwf 60 0 0 s0 (s0_eI h0)
  obtain ⟨R, eR⟩ : ∃ R, R = ev K F M 60 0 0 s0 := ⟨_, rfl⟩
  rw [← eR] at a1 a3 o ⊢
  have s4 := srt o
  obtain ⟨σ9, e9⟩ : ∃ y, y = sI σ8 11 5 (numV R.1) := ⟨_, rfl⟩
  refine ⟨σ9, ?_, ?_, by rw [e9, rI_at, pk_un (by decide)]; exact a3.2.1, by rw [e9, rI_at, pk_us]⟩
  · have run : F_Ma_runTerm 61 p 0 0 0 σ6 = some (pkV R.1, σ8) := a1
    unfold f_Ma_start f_Ma_start_J36
    rw [lt_q, ← e5, lt_q, ← e6, run, bn_q, out_pk s4, bn_q]
    by_cases z : R.1.1 = 0
    · have en : numV R.1 = cont R.1 := by unfold numV cont; rw [if_pos z, if_neg (by omega)]
      rw [if_pos ((nI_zr s4).mpr z), con_pk s4, bn_q, lt_q, ← en, ← e9, out_pk s4, bn_q]
    · have en : numV R.1 = 0 := by unfold numV; rw [if_neg z]
      rw [if_neg (fun y => z ((nI_zr s4).mp y)), lt_q, ← en, ← e9, out_pk s4, bn_q]
  · refine fr_tr f6 (fr_tr a2.1 ?_)
    rw [e9]; exact fr_rI _ _ (by unfold cRn; omega)
theorem s_Mo_go (hn : n ≤ 40) (hwf : wf K n) (hk : okK n K F T) (hdp : ∀ j, j < n → dp K j ≤ 11) (h0 : 0 < n) {M : Nat → Int32} {σ1 : Mem} (ht : f_Mo_type σ = some ((), σ1)) (hM : MRm n K F T M σ1) : ∃ σ', f_Mo_run σ = some (nI (ev K F M 60 0 0 s0).1.1, σ') ∧ fr mRn σ1 σ' ∧ σ'.1 15 24 = nI (ev K F M 60 0 0 s0).2.1 ∧ σ'.1 15 25 = numV (ev K F M 60 0 0 s0).1 ∧ ∀ q, ¬ o15 q → q ≠ 25 → σ'.1 15 q = σ1.1 15 q := by
  obtain ⟨σ2, e2⟩ : ∃ y, y = sI σ1 15 24 0 := ⟨_, rfl⟩
  obtain ⟨σ3, e3⟩ : ∃ y, y = sI σ2 15 26 0 := ⟨_, rfl⟩
  obtain ⟨σ4, e4⟩ : ∃ y, y = sI σ3 15 36 0 := ⟨_, rfl⟩
  obtain ⟨σ5, e5⟩ : ∃ y, y = sI σ4 15 25 0 := ⟨_, rfl⟩
  have c15 : σ5.1 15 = upd (upd (upd (upd (σ1.1 15) 24 0) 26 0) 36 0) 25 0 := by rw [e5, rI_at, e4, rI_at, e3, rI_at, e2, rI_at]
  have f5 : fr (fun c => c = 15) σ1 σ5 := by rw [e5, e4, e3, e2]; exact fr_tr (fr_tr (fr_tr (fr_rI _ _ rfl) (fr_rI _ _ rfl)) (fr_rI _ _ rfl)) (fr_rI _ _ rfl)
  have g : ∀ c, c ≠ 15 → σ5.1 c = σ1.1 c ∧ σ5.2 c = σ1.2 c := fun c hc => f5 c hc
  have M5 : MRm n K F T M σ5 := by
    unfold MRm rowM
    rw [(g 16 (by decide)).1, (g 17 (by decide)).1, (g 18 (by decide)).2, (g 26 (by decide)).1]
    exact hM
  have R5 : RepM σ5 s0 := ⟨by rw [c15, pk_un (by decide), pk_un (by decide), pk_un (by decide), pk_us]; rfl, by rw [c15, pk_un (by decide), pk_us]; rfl, fun j h1 h2 => by
    have : j ≤ 0 := h2
    omega⟩
  have h26 : σ5.1 15 26 = nI 0 := by rw [c15, pk_un (by decide), pk_un (by decide), pk_us]; rfl
  have h25 : σ5.1 15 25 = 0 := by rw [c15, pk_us]
  obtain ⟨fl, σe, x1, x2, x3⟩ := R_run hn hwf hk hdp 60 0 0 0 s0 σ5 (s0_eI h0) rfl M5 R5 h26
  have o := ev_ok (F := F) (M := M) hn hwf 60 0 0 s0 (s0_eI h0)
  obtain ⟨R, eR⟩ : ∃ R, R = ev K F M 60 0 0 s0 := ⟨_, rfl⟩
  rw [← eR] at x3 o ⊢
  have s4 := srt o
  have o2 := o.2.1
  have ent : f_Mo_enter 0 0 σ5 = some (fl, σe) := x1
  have q15 : ∀ q, ¬ o15 q → q ≠ 25 → σ5.1 15 q = σ1.1 15 q := fun q h1 h2 => by
    unfold o15 at h1
    rw [c15, pk_un (by omega), pk_un (by omega), pk_un (by omega), pk_un (by omega)]
  have fin : ∀ z, loopF Br 2000 (fl, 0, σe) = some z → f_Mo_run σ = some z := fun z hz => by
    unfold f_Mo_run
    rw [ht, bn_q, lt_q, ← e2, lt_q, ← e3, lt_q, ← e4, lt_q, ← e5, ent, bn_q, lt_q]
    exact lp_FU hz (by decide)
  have s00 : s0.1 = 0 := rfl
  have f05 : fr mRn σ1 σ5 := fr_mono f5 (fun c q => Or.inl q)
  by_cases q : R.1.1 = 3
  · obtain ⟨t, σ', y1, y2, y3, y4⟩ := x3.1 q
    refine ⟨σ', ?_, fr_tr f05 y3.1, y4, ?_, fun q h1 h2 => by rw [y3.2.1 q h1, q15 q h1 h2]⟩
    · rw [q]
      exact fin _ (lp_mono y2 (by omega))
    · have en : numV R.1 = 0 := by unfold numV; rw [if_neg (by omega)]
      rw [y3.2.1 25 (by unfold o15; omega), h25, en]
  · obtain ⟨u1, t, σ', y1, y3, y4, y5, y6, y7⟩ := x3.2 q
    obtain ⟨σ7, e7⟩ : ∃ y, y = sI σ' 15 25 (numV R.1) := ⟨_, rfl⟩
    have ex : loopF Br 1 (1, 1, σ') = some (nI R.1.1, σ7) := by
      refine lp_exit (body := Br) ?_
      show f_Mo_run_L33 1 1 σ' = _
      have J : f_Mo_run_J274 1 1 σ' = some (nI R.1.1, σ7) := by
        unfold f_Mo_run_J274 f_Mo_run_J296
        have c33 : σ7.1 15 33 = nI R.1.1 := by rw [e7, rI_at, pk_un (by decide)]; exact y5.1
        rw [if_neg (by decide), y5.1, y5.2.1]
        by_cases z : R.1.1 = 0
        · have en : numV R.1 = R.1.2.1 := by unfold numV; rw [if_pos z]
          rw [if_pos ((nI_zr s4).mpr z), ← en, ← e7, lt_q, c33]
        · have en : numV R.1 = 0 := by unfold numV; rw [if_neg z]
          rw [if_neg (fun y => z ((nI_zr s4).mp y)), ← en, ← e7, lt_q, c33]
      unfold f_Mo_run_L33
      rw [if_neg (by decide), y6, if_pos (by decide), J]
      rfl
    refine ⟨σ7, ?_, fr_tr f05 (fr_tr y3.1 (by rw [e7]; exact fr_rI _ _ (Or.inl rfl))), ?_, by rw [e7, rI_at, pk_us], fun q h1 h2 => ?_⟩
    · have := y7 1 _ ex
      rw [← u1] at this
      exact fin _ (lp_mono this (by omega))
    · rw [e7, rI_at, pk_un (by decide)]; exact y4.1
    · rw [e7, rI_at, pk_un h2, y3.2.1 q h1, q15 q h1 h2]
theorem ok_run {k : Nat} (hk : k < 900) (hI : Inv TYp PC PM k σ) : Ok TYp PC PM (k + 1) σ f_Be_run f_Mo_run := by
  obtain ⟨⟨n, c, K, F, T⟩, p, kp, pb, ch, Hs, Ps, hk2, h⟩ := id hI
  obtain ⟨σ1, a1, a2, a3, a4, a5⟩ := IV_typed h (by omega)
  have hn : n ≤ 40 := h.1.1.2.1
  have hc : c < n := h.1.1.2.2.1
  have h12 : tm K 12 0 = some n := h.1.1.1
  have hok : okK n K F T := h.1.1.2.2.2
  have hwf : wf K n := okP_wf h.1.1
  have hdp : ∀ j, j < n → dp K j ≤ 11 := fun j hj => by
    have := dp_tm hwf 12 0 n (by omega) h12 (by decide) j (Nat.zero_le _) hj
    have z : dp K 0 = 0 := rfl
    omega
  obtain ⟨h1, h2, h3, h4, h5, h6⟩ := id a2
  obtain ⟨σ2, b1, b2, b3, b4⟩ := s_start (p := p) (M := σ1.1 6) hn hwf hok (by omega) (σ := σ1) ⟨⟨h2.2.2.2.1.1, h2.2.2.2.1.2.2⟩, fun j _ => rfl⟩
  have g : ∀ c, c < 11 ∨ 14 < c → σ2.1 c = σ1.1 c ∧ σ2.2 c = σ1.2 c := fun c hc => b2 c (by unfold cRn; omega)
  have C2 : CV σ2 (n, c, K, F, T) p kp pb ch Hs Ps := CV_fr h2 b2 (fun c hc => by unfold cE at hc; unfold cRn; omega)
  have M2 : MV σ2 (n, c, K, F, T) kp pb Hs Ps := MV_fr h3 b2 (fun c hc => by unfold mE at hc; unfold cRn; omega)
  have T2 : TyI TYp σ2 (n, c, K, F, T) ch := TyI_fr h4 c (by rw [(g 3 (by decide)).1]) (g 4 (by decide)).2 (g 5 (by decide)).2 (g 6 (by decide)).1 (g 24 (by decide)).2 (g 25 (by decide)).2 (g 26 (by decide)).1 (by rw [(g 15 (by decide)).1])
  have P2 : PgI PC PM σ2 (n, c, K, F, T) ch := PgI_fr h5 c (by rw [(g 7 (by decide)).1]) (g 8 (by decide)).2 (g 9 (by decide)).1 (g 10 (by decide)).1 (g 27 (by decide)).1 (g 28 (by decide)).1 (g 29 (by decide)).1 (by rw [(g 15 (by decide)).1]) (by rw [(g 15 (by decide)).1])
  obtain ⟨σ3, d1, d2, d3, d4, d5, d6, d7⟩ := X_mtype h1 C2 M2 T2 P2 (by omega) (by rw [(g 3 (by decide)).1]; exact a3)
  obtain ⟨σ4, j1, j2, j3, j4, j5⟩ := s_Mo_go (M := σ1.1 6) hn hwf hok hdp (by omega) d1 ⟨d3.1.2.2, fun j hj => by rw [d6 j hj, (g 6 (by decide)).1]⟩
  have q : ∀ c, c < 15 ∨ 15 < c ∧ c < 33 ∨ 43 < c → σ4.1 c = σ3.1 c ∧ σ4.2 c = σ3.2 c := fun c hc => j2 c (by unfold mRn; omega)
  have q15 : ∀ x, x < 24 → σ4.1 15 x = σ3.1 15 x := fun x hx => j5 x (by unfold o15; omega) (by omega)
  refine ⟨_, σ2, σ4, ?_, j1, (n, c, K, F, T), p, kp, pb, ch, Hs, Ps, (by omega : ch ≤ k + 1), h1, ?_, ?_, ?_, ?_, ?_⟩
  · unfold f_Be_run
    rw [IV_present h, bn_q, gd_t (IV_p h), a1, bn_q, b1, bn_q]
  · exact CV_fr d2 j2 (fun c hc => by unfold cE at hc; unfold mRn; omega)
  · exact MV_15 d3 j2 (fun c x y => by unfold mRn; omega) (fun x hx => q15 x (by omega))
  · exact TyI_fr d4 c (by rw [(q 3 (by decide)).1]) (q 4 (by decide)).2 (q 5 (by decide)).2 (q 6 (by decide)).1 (q 24 (by decide)).2 (q 25 (by decide)).2 (q 26 (by decide)).1 (q15 12 (by decide))
  · exact PgI_fr d5 c (by rw [(q 7 (by decide)).1]) (q 8 (by decide)).2 (q 9 (by decide)).1 (q 10 (by decide)).1 (q 27 (by decide)).1 (q 28 (by decide)).1 (q 29 (by decide)).1 (q15 16 (by decide)) (q15 17 (by decide))
  · exact ⟨by rw [(q 11 (by decide)).1, (d7 11 (by decide)).1, b4, j4], by rw [(q 11 (by decide)).1, (d7 11 (by decide)).1, b3, j3]⟩
end OKRUN
