/-! undo, redo; up, down; kind, terms, result, units -/
theorem isP_1 {i c : Nat} (h : isP i c) : ¬ c = 1 := fun q => by have := isP_ge h; omega
section UNDO
variable {TY : TYt} {PC : PCt} {PM : PMt} {σ : Mem} {A : Pg} {n c p kp pb ch : Nat} {K F : Nat → Int32} {T : Nat → Int64} {Hs Ps : Nat → Pg}
theorem M_undo (h : MV σ A kp pb Hs Ps) (ho : oks A kp pb Hs Ps) (h0 : 0 < kp) (hkp : kp + pb ≤ 16) : ∃ σ4, f_Mo_undo σ = some (1, σ4) ∧ fr mE σ σ4 ∧ MV σ4 (Hs (kp - 1)) (kp - 1) (pb + 1) Hs (fun j => if j = pb then A else Ps j) ∧ σ4.1 15 12 = 0 ∧ σ4.1 15 16 = 0 ∧ ∀ q, q ≠ 0 → q ≠ 5 → q ≠ 6 → q ≠ 1 → q ≠ 12 → q ≠ 16 → σ4.1 15 q = σ.1 15 q := by
  obtain ⟨h1, h2, h3, h4, h5⟩ := h
  obtain ⟨σ2, a1, a2, a3, a4⟩ := s_Mo_save (s := 16 + pb) h1 ho.1.2.1 (by omega)
  have f15 : σ2.1 15 = σ.1 15 := (a2 15 (by unfold mS; omega)).1
  obtain ⟨σ3, e3⟩ : ∃ s, s = sI σ2 15 6 ((σ2.1 15 6) + 1) := ⟨_, rfl⟩
  obtain ⟨σ4, e4⟩ : ∃ s, s = sI σ3 15 5 ((σ3.1 15 5) - 1) := ⟨_, rfl⟩
  have g6 : σ2.1 15 6 + 1 = nI (pb + 1) := by rw [f15, h3, nI_1]
  have g5 : σ3.1 15 5 - 1 = nI (kp - 1) := by
    rw [e3, rI_at, pk_un (by decide), f15, h2]
    have := nI_pred (kp - 1)
    rwa [show kp - 1 + 1 = kp by omega] at this
  rw [g6] at e3
  rw [g5] at e4
  have r15 : σ4.1 15 = upd (upd (σ.1 15) 6 (nI (pb + 1))) 5 (nI (kp - 1)) := by rw [e4, rI_at, e3, rI_at, f15]
  have f24 : fr (fun c => c = 15) σ2 σ4 := by rw [e4, e3]; exact fr_tr (fr_rI _ _ rfl) (fr_rI _ _ rfl)
  have sl : ∀ s, slE s σ2 σ4 := fun s => slE_fr f24 (fun c hc => by unfold mS at hc; omega)
  have hS : atS σ4 (kp - 1) (Hs (kp - 1)) := atS_sl (atS_sl (h4 (kp - 1) (by omega)) (ho.2.1 (kp - 1) (by omega)).2.1 (a4 (kp - 1) (by omega))) (ho.2.1 (kp - 1) (by omega)).2.1 (sl _)
  obtain ⟨σ6, b1, b2, b3, b4, b5, b6⟩ := s_Mo_bring hS (ho.2.1 (kp - 1) (by omega)).2.1 (by omega)
  have sE : ∀ s, slE s σ4 σ6 := fun s => slE_fr b2 (fun c hc => by unfold mS at hc; unfold mRo; omega)
  refine ⟨σ6, ?_, ?_, ⟨b3, ?_, ?_, fun j hj => ?_, fun j hj => ?_⟩, b4, b5, fun q q0 q5 q6 q1 q12 q16 => ?_⟩
  · unfold f_Mo_undo
    rw [h2, if_neg (nI_ne0 h0 (by omega)), h3]
    have l16 : (16 : Int32) + nI pb = nI (16 + pb) := nI_add 16 pb
    rw [l16, a1, bn_q]
    simp only [lt_]
    rw [g6, ← e3, g5, ← e4]
    have q5 : σ4.1 15 5 = nI (kp - 1) := by rw [r15, pk_us]
    rw [q5, b1, bn_q]
  · refine fr_tr (fr_mono a2 (fun c q => mE_s (Or.inr q))) (fr_tr (fr_mono f24 (fun c q => by unfold mE; omega)) (fr_mono b2 (fun c q => mE_o q)))
  · rw [b6 5 (by decide) (by decide) (by decide) (by decide), r15, pk_us]
  · rw [b6 6 (by decide) (by decide) (by decide) (by decide), r15, pk_un (by decide), pk_us]
  · exact atS_sl (atS_sl (atS_sl (h4 j (by omega)) (ho.2.1 j (by omega)).2.1 (a4 j (by omega))) (ho.2.1 j (by omega)).2.1 (sl _)) (ho.2.1 j (by omega)).2.1 (sE _)
  · dsimp only; by_cases q : j = pb
    · rw [if_pos q, q]
      exact atS_sl (atS_sl a3 ho.1.2.1 (sl _)) ho.1.2.1 (sE _)
    · rw [if_neg q]
      exact atS_sl (atS_sl (atS_sl (h5 j (by omega)) (ho.2.2 j (by omega)).2.1 (a4 (16 + j) (by omega))) (ho.2.2 j (by omega)).2.1 (sl _)) (ho.2.2 j (by omega)).2.1 (sE _)
  · rw [b6 q q0 q1 q12 q16, r15, pk_un q5, pk_un q6]
theorem M_redo (h : MV σ A kp pb Hs Ps) (ho : oks A kp pb Hs Ps) (h0 : 0 < pb) (hkp : kp + pb ≤ 16) : ∃ σ4, f_Mo_redo σ = some (1, σ4) ∧ fr mE σ σ4 ∧ MV σ4 (Ps (pb - 1)) (kp + 1) (pb - 1) (fun j => if j = kp then A else Hs j) Ps ∧ σ4.1 15 12 = 0 ∧ σ4.1 15 16 = 0 ∧ ∀ q, q ≠ 0 → q ≠ 5 → q ≠ 6 → q ≠ 1 → q ≠ 12 → q ≠ 16 → σ4.1 15 q = σ.1 15 q := by
  obtain ⟨h1, h2, h3, h4, h5⟩ := h
  obtain ⟨σ2, a1, a2, a3, a4⟩ := s_Mo_save (s := kp) h1 ho.1.2.1 (by omega)
  have f15 : σ2.1 15 = σ.1 15 := (a2 15 (by unfold mS; omega)).1
  obtain ⟨σ3, e3⟩ : ∃ s, s = sI σ2 15 5 ((σ2.1 15 5) + 1) := ⟨_, rfl⟩
  obtain ⟨σ4, e4⟩ : ∃ s, s = sI σ3 15 6 ((σ3.1 15 6) - 1) := ⟨_, rfl⟩
  have g6 : σ2.1 15 5 + 1 = nI (kp + 1) := by rw [f15, h2, nI_1]
  have g5 : σ3.1 15 6 - 1 = nI (pb - 1) := by
    rw [e3, rI_at, pk_un (by decide), f15, h3]
    have := nI_pred (pb - 1)
    rwa [show pb - 1 + 1 = pb by omega] at this
  rw [g6] at e3
  rw [g5] at e4
  have r15 : σ4.1 15 = upd (upd (σ.1 15) 5 (nI (kp + 1))) 6 (nI (pb - 1)) := by rw [e4, rI_at, e3, rI_at, f15]
  have f24 : fr (fun c => c = 15) σ2 σ4 := by rw [e4, e3]; exact fr_tr (fr_rI _ _ rfl) (fr_rI _ _ rfl)
  have sl : ∀ s, slE s σ2 σ4 := fun s => slE_fr f24 (fun c hc => by unfold mS at hc; omega)
  have hS : atS σ4 (16 + (pb - 1)) (Ps (pb - 1)) := atS_sl (atS_sl (h5 (pb - 1) (by omega)) (ho.2.2 (pb - 1) (by omega)).2.1 (a4 (16 + (pb - 1)) (by omega))) (ho.2.2 (pb - 1) (by omega)).2.1 (sl _)
  obtain ⟨σ6, b1, b2, b3, b4, b5, b6⟩ := s_Mo_bring hS (ho.2.2 (pb - 1) (by omega)).2.1 (by omega)
  have sE : ∀ s, slE s σ4 σ6 := fun s => slE_fr b2 (fun c hc => by unfold mS at hc; unfold mRo; omega)
  refine ⟨σ6, ?_, ?_, ⟨b3, ?_, ?_, fun j hj => ?_, fun j hj => ?_⟩, b4, b5, fun q q0 q5 q6 q1 q12 q16 => ?_⟩
  · unfold f_Mo_redo
    rw [h3, if_neg (nI_ne0 h0 (by omega)), h2, a1, bn_q]
    simp only [lt_]
    rw [g6, ← e3, g5, ← e4]
    have q5 : σ4.1 15 6 = nI (pb - 1) := by rw [r15, pk_us]
    have l16 : (16 : Int32) + nI (pb - 1) = nI (16 + (pb - 1)) := nI_add 16 (pb - 1)
    rw [q5, l16, b1, bn_q]
  · refine fr_tr (fr_mono a2 (fun c q => mE_s (Or.inr q))) (fr_tr (fr_mono f24 (fun c q => by unfold mE; omega)) (fr_mono b2 (fun c q => mE_o q)))
  · rw [b6 5 (by decide) (by decide) (by decide) (by decide), r15, pk_un (by decide), pk_us]
  · rw [b6 6 (by decide) (by decide) (by decide) (by decide), r15, pk_us]
  · dsimp only; by_cases q : j = kp
    · rw [if_pos q, q]
      exact atS_sl (atS_sl a3 ho.1.2.1 (sl _)) ho.1.2.1 (sE _)
    · rw [if_neg q]
      exact atS_sl (atS_sl (atS_sl (h4 j (by omega)) (ho.2.1 j (by omega)).2.1 (a4 j (by omega))) (ho.2.1 j (by omega)).2.1 (sl _)) (ho.2.1 j (by omega)).2.1 (sE _)
  · exact atS_sl (atS_sl (atS_sl (h5 j (by omega)) (ho.2.2 j (by omega)).2.1 (a4 (16 + j) (by omega))) (ho.2.2 j (by omega)).2.1 (sl _)) (ho.2.2 j (by omega)).2.1 (sE _)
  · rw [b6 q q0 q1 q12 q16, r15, pk_un q6, pk_un q5]
theorem ok_undo {k : Nat} (hk : k < 900) (hI : Inv TY PC PM k σ) : Ok TY PC PM (k + 1) σ f_Be_undo f_Mo_undo := by
  obtain ⟨A, p, kp, pb, ch, Hs, Ps, hk2, h⟩ := id hI
  have ho := h.1
  obtain ⟨c1, c2, c3, c4, c5, c6⟩ := h.2.1
  by_cases q : kp = 0
  · subst q
    refine Ok_same hI (r := 0) ?_ ?_
    · unfold f_Be_undo
      rw [s_Hi_back0 c3, bn_q]; rfl
    · unfold f_Mo_undo
      rw [h.2.2.1.2.1, if_pos (show nI 0 = 0 from rfl)]
  · obtain ⟨σ1, a1, a2, a3⟩ := s_Hi_back c3 c1 (by omega) (by omega)
    have hC : CV σ1 (Hs (kp - 1)) ((p + 16) % 17) (kp - 1) (pb + 1) (ch + 1) Hs (fun j => if j = pb then A else Ps j) := by
      have q' : ∀ {r : Nat} {B : Pg}, atC σ r B → atC σ1 r B := fun hB => atC_fr hB a2 (fun c hc => isP_1 hc)
      refine ⟨Nat.mod_lt _ (by decide), by omega, a3, ?_, fun j hj => ?_, fun j hj => ?_⟩
      · have := c5 (kp - 1) (by omega)
        rw [show (p + 17 - kp + (kp - 1)) % 17 = (p + 16) % 17 by omega] at this
        exact q' this
      · have := c5 j (by omega)
        rw [show ((p + 16) % 17 + 17 - (kp - 1) + j) % 17 = (p + 17 - kp + j) % 17 by omega]
        exact q' this
      · dsimp only; by_cases z : j = pb
        · rw [if_pos z, show ((p + 16) % 17 + (pb + 1) - j) % 17 = p by omega]
          exact q' c4
        · rw [if_neg z, show ((p + 16) % 17 + (pb + 1) - j) % 17 = (p + pb - j) % 17 by omega]
          exact q' (c6 j (by omega))
    have hM : MV σ1 A kp pb Hs Ps := MV_fr h.2.2.1 a2 (fun c hc => by unfold mE at hc; omega)
    obtain ⟨σ2, b1, b2, b3, b4, b5, b6⟩ := M_undo hM ho (by omega) c2
    have f15 : σ1.1 15 = σ.1 15 := (a2 15 (by omega)).1
    refine ⟨1, σ1, σ2, ?_, b1, _, _, _, _, _, _, _, (by omega : ch + 1 ≤ k + 1), ca_yes h (by omega) (fun c hc => ?_) b4 b5 ?_ ?_ ?_ (CV_fr hC b2 cE_mE) b3⟩
    · unfold f_Be_undo
      rw [a1, bn_q]; rfl
    · rw [(b2 c (by unfold mE; omega)).1, (a2 c (by omega)).1]
    · rw [b6 25 (by decide) (by decide) (by decide) (by decide) (by decide) (by decide), f15]
    · rw [b6 24 (by decide) (by decide) (by decide) (by decide) (by decide) (by decide), f15]
    · refine ⟨ho.2.1 _ (by omega), fun j hj => ho.2.1 j (by omega), fun j hj => ?_⟩
      dsimp only; by_cases z : j = pb
      · rw [if_pos z]; exact ho.1
      · rw [if_neg z]; exact ho.2.2 j (by omega)
theorem ok_redo {k : Nat} (hk : k < 900) (hI : Inv TY PC PM k σ) : Ok TY PC PM (k + 1) σ f_Be_redo f_Mo_redo := by
  obtain ⟨A, p, kp, pb, ch, Hs, Ps, hk2, h⟩ := id hI
  have ho := h.1
  obtain ⟨c1, c2, c3, c4, c5, c6⟩ := h.2.1
  by_cases q : pb = 0
  · subst q
    refine Ok_same hI (r := 0) ?_ ?_
    · unfold f_Be_redo
      rw [s_Hi_forth0 c3, bn_q]; rfl
    · unfold f_Mo_redo
      rw [h.2.2.1.2.2.1, if_pos (show nI 0 = 0 from rfl)]
  · obtain ⟨σ1, a1, a2, a3⟩ := s_Hi_forth c3 c1 (by omega) (by omega)
    have hC : CV σ1 (Ps (pb - 1)) ((p + 1) % 17) (kp + 1) (pb - 1) (ch + 1) (fun j => if j = kp then A else Hs j) Ps := by
      have q' : ∀ {r : Nat} {B : Pg}, atC σ r B → atC σ1 r B := fun hB => atC_fr hB a2 (fun c hc => isP_1 hc)
      refine ⟨Nat.mod_lt _ (by decide), by omega, a3, ?_, fun j hj => ?_, fun j hj => ?_⟩
      · have := c6 (pb - 1) (by omega)
        rw [show (p + pb - (pb - 1)) % 17 = (p + 1) % 17 by omega] at this
        exact q' this
      · dsimp only; by_cases z : j = kp
        · rw [if_pos z, show ((p + 1) % 17 + 17 - (kp + 1) + j) % 17 = p by omega]
          exact q' c4
        · rw [if_neg z, show ((p + 1) % 17 + 17 - (kp + 1) + j) % 17 = (p + 17 - kp + j) % 17 by omega]
          exact q' (c5 j (by omega))
      · have := c6 j (by omega)
        rw [show ((p + 1) % 17 + (pb - 1) - j) % 17 = (p + pb - j) % 17 by omega]
        exact q' this
    have hM : MV σ1 A kp pb Hs Ps := MV_fr h.2.2.1 a2 (fun c hc => by unfold mE at hc; omega)
    obtain ⟨σ2, b1, b2, b3, b4, b5, b6⟩ := M_redo hM ho (by omega) c2
    have f15 : σ1.1 15 = σ.1 15 := (a2 15 (by omega)).1
    refine ⟨1, σ1, σ2, ?_, b1, _, _, _, _, _, _, _, (by omega : ch + 1 ≤ k + 1), ca_yes h (by omega) (fun c hc => ?_) b4 b5 ?_ ?_ ?_ (CV_fr hC b2 cE_mE) b3⟩
    · unfold f_Be_redo
      rw [a1, bn_q]; rfl
    · rw [(b2 c (by unfold mE; omega)).1, (a2 c (by omega)).1]
    · rw [b6 25 (by decide) (by decide) (by decide) (by decide) (by decide) (by decide), f15]
    · rw [b6 24 (by decide) (by decide) (by decide) (by decide) (by decide) (by decide), f15]
    · refine ⟨ho.2.2 _ (by omega), fun j hj => ?_, fun j hj => ho.2.2 j (by omega)⟩
      dsimp only; by_cases z : j = kp
      · rw [if_pos z]; exact ho.1
      · rw [if_neg z]; exact ho.2.1 j (by omega)
/-- the cursor moves on both sides -/
theorem CV_move (h : CV σ (n, c, K, F, T) p kp pb ch Hs Ps) (c' : Nat) : CV (sI σ (cP p) 5 (nI c')) (n, c', K, F, T) p kp pb ch Hs Ps := by
  obtain ⟨c1, c2, c3, c4, c5, c6⟩ := h
  have f : fr (isP p) σ (sI σ (cP p) 5 (nI c')) := fr_rI _ _ (isP_0 p)
  have oth : ∀ {r : Nat} {B : Pg}, r ≠ p → atC σ r B → atC (sI σ (cP p) 5 (nI c')) r B := fun hr hB => atC_fr hB f (fun c hc => isP_ne (Ne.symm hr) hc)
  refine ⟨c1, c2, ?_, ⟨?_, ?_, ?_⟩, fun j hj => oth (by omega) (c5 j hj), fun j hj => oth (by omega) (c6 j hj)⟩
  · unfold atH
    rw [rI_ne (by unfold cP; omega)]
    exact c3
  · rw [rI_at, pk_un (by decide)]; exact c4.1
  · rw [rI_at, pk_us]
  · show rowC _ p n K F T
    unfold rowC
    rw [rI_ne (nP1 p).symm, rI_ne (nP2 p).symm, rI_ne (nP3 p).symm]
    exact c4.2.2
theorem atM_move (h : atM σ (n, c, K, F, T)) (c' : Nat) : atM (sI σ 15 1 (nI c')) (n, c', K, F, T) := by
  refine ⟨by rw [rI_at, pk_un (by decide)]; exact h.1, by rw [rI_at, pk_us], ?_⟩
  show rowM _ n K F T
  unfold rowM
  rw [rI_ne (by decide), rI_ne (by decide)]
  exact h.2.2
theorem MV_move (h : MV σ (n, c, K, F, T) kp pb Hs Ps) (c' : Nat) : MV (sI σ 15 1 (nI c')) (n, c', K, F, T) kp pb Hs Ps := by
  obtain ⟨h1, h2, h3, h4, h5⟩ := h
  have f : fr (fun c => c = 15) σ (sI σ 15 1 (nI c')) := fr_rI _ _ rfl
  have q : ∀ {s : Nat} {B : Pg}, atS σ s B → atS (sI σ 15 1 (nI c')) s B := fun hB => by
    unfold atS
    rw [rI_ne (by decide), rI_ne (by decide), rI_ne (by decide), rI_ne (by decide)]
    exact hB
  exact ⟨atM_move h1 c', by rw [rI_at, pk_un (by decide)]; exact h2, by rw [rI_at, pk_un (by decide)]; exact h3, fun j hj => q (h4 j hj), fun j hj => q (h5 j hj)⟩
theorem oks_move (h : oks (n, c, K, F, T) kp pb Hs Ps) {c' : Nat} (hc : c' < n) : oks (n, c', K, F, T) kp pb Hs Ps := ⟨⟨h.1.1, h.1.2.1, hc, h.1.2.2.2⟩, h.2⟩
theorem TyI_fr {σ' : Mem} (h : TyI TY σ (n, c, K, F, T) ch) (c' : Nat) (h3 : σ'.1 3 3 = σ.1 3 3) (h4 : σ'.2 4 = σ.2 4) (h5 : σ'.2 5 = σ.2 5) (h6 : σ'.1 6 = σ.1 6) (h24 : σ'.2 24 = σ.2 24) (h25 : σ'.2 25 = σ.2 25) (h26 : σ'.1 26 = σ.1 26) (h12 : σ'.1 15 12 = σ.1 15 12) : TyI TY σ' (n, c', K, F, T) ch := by
  unfold TyI
  rw [h3, h4, h5, h6, h24, h25, h26, h12]
  exact h
theorem PgI_fr {σ' : Mem} (h : PgI PC PM σ (n, c, K, F, T) ch) (c' : Nat) (h3 : σ'.1 7 4 = σ.1 7 4) (h4 : σ'.2 8 = σ.2 8) (h5 : σ'.1 9 = σ.1 9) (h6 : σ'.1 10 = σ.1 10) (h24 : σ'.1 27 = σ.1 27) (h25 : σ'.1 28 = σ.1 28) (h26 : σ'.1 29 = σ.1 29) (h12 : σ'.1 15 16 = σ.1 15 16) (h17 : σ'.1 15 17 = σ.1 15 17) : PgI PC PM σ' (n, c', K, F, T) ch := by
  unfold PgI
  rw [h3, h4, h5, h6, h24, h25, h26, h12, h17]
  exact h
theorem IV_move (h : IV TY PC PM σ (n, c, K, F, T) p kp pb ch Hs Ps) {c' : Nat} (hc : c' < n) : IV TY PC PM (sI (sI σ (cP p) 5 (nI c')) 15 1 (nI c')) (n, c', K, F, T) p kp pb ch Hs Ps := by
  obtain ⟨h1, h2, h3, h4, h5, h6⟩ := h
  have np : ∀ a, a < 44 → a ≠ cP p := fun a ha => by unfold cP; omega
  have e : ∀ a, a < 44 → a ≠ 15 → (sI (sI σ (cP p) 5 (nI c')) 15 1 (nI c')).1 a = σ.1 a := fun a ha hb => by rw [rI_ne hb, rI_ne (np a ha)]
  have e15 : ∀ q, q ≠ 1 → (sI (sI σ (cP p) 5 (nI c')) 15 1 (nI c')).1 15 q = σ.1 15 q := fun q hq => by rw [rI_at, pk_un hq, rI_ne (np 15 (by decide))]
  refine ⟨oks_move h1 hc, CV_fr (CV_move h2 c') (S := fun c => c = 15) (fr_rI _ _ rfl) (fun c hc => by unfold cE at hc; omega), MV_move (MV_fr h3 (S := isP p) (fr_rI _ _ (isP_0 p)) (fun c hc q => by have := isP_ge q; unfold mE at hc; omega)) c', ?_, ?_, ?_, ?_⟩
  · exact TyI_fr h4 c' (by rw [e 3 (by decide) (by decide)]) rfl rfl (e 6 (by decide) (by decide)) rfl rfl (e 26 (by decide) (by decide)) (e15 12 (by decide))
  · exact PgI_fr h5 c' (by rw [e 7 (by decide) (by decide)]) rfl (e 9 (by decide) (by decide)) (e 10 (by decide) (by decide)) (e 27 (by decide) (by decide)) (e 28 (by decide) (by decide)) (e 29 (by decide) (by decide)) (e15 16 (by decide)) (e15 17 (by decide))
  · rw [e 11 (by decide) (by decide), e15 25 (by decide)]; exact h6.1
  · rw [e 11 (by decide) (by decide), e15 24 (by decide)]; exact h6.2
theorem s_moveTo {c' : Nat} (hp : f_Hi_present σ = some (p, σ)) (hp2 : p < 17) (hc : c' < 100) : f_Be_moveTo (nI c') σ = some (1, sI σ (cP p) 5 (nI c')) := by
  unfold f_Be_moveTo
  rw [if_pos (nI_pos' (by omega)), hp, bn_q, gd_t (decide_eq_true hp2)]
  rfl
theorem s_moveNo : f_Be_moveTo (-1) σ = some (0, σ) := if_neg (by decide)
theorem ok_up {k : Nat} (hI : Inv TY PC PM k σ) : Ok TY PC PM (k + 1) σ f_Be_up f_Mo_up := by
  obtain ⟨⟨n, c, K, F, T⟩, p, kp, pb, ch, Hs, Ps, hk2, h⟩ := id hI
  have ho := h.1
  have hn : n ≤ 40 := ho.1.2.1
  have hc : c < n := ho.1.2.2.1
  have hw : wf K n := okP_wf ho.1
  have ec : σ.1 (cP p) 5 = nI c := h.2.1.2.2.2.1.2.1
  obtain ⟨u1, u2⟩ := atM_cu h.2.2.1.1 hc
  by_cases q0 : c = 0
  · subst q0
    refine Ok_same hI (r := 0) ?_ ?_
    · unfold f_Be_up
      rw [IV_present h, bn_q, gd_t (IV_p h), ec, s_Pr_parent0, bn_q, s_moveNo, bn_q]
      rfl
    · unfold f_Mo_up f_Mo_up_J22 f_Mo_up_J34
      rw [u1, s_Mo_above (n := n) (K := K) (by omega) (fun j hj => (h.2.2.1.1.2.2 j hj).1) hw hc, bn_q]
      rw [if_neg (show ¬ (0 : Int32) ≤ oI (up1 K 0 0) from oI_no)]
      simp only [lt_]
      rw [sI_self, if_pos (by show oI none < 0; decide)]
      rfl
  · obtain ⟨q, hq, hqc, hqe, hqk, hqd⟩ := up_ex hw (by omega) hc
    refine ⟨1, sI σ (cP p) 5 (nI q), _, ?_, ?_, _, _, _, _, _, _, _, (by omega : ch ≤ k + 1), IV_move h (c' := q) (by omega)⟩
    · unfold f_Be_up
      rw [IV_present h, bn_q, gd_t (IV_p h), ec, s_Pr_parent hn h.2.1.2.2.2.1.2.2 hw (by omega) hc hq, bn_q, s_moveTo (IV_present h) h.2.1.1 (by omega), bn_q]
      rfl
    · have hM := MV_fr h.2.2.1 (S := isP p) (fr_rI σ (upd (σ.1 (cP p)) 5 (nI q)) (isP_0 p)) (fun c hc q => by have := isP_ge q; unfold mE at hc; omega)
      obtain ⟨v1, v2⟩ := atM_cu hM.1 hc
      unfold f_Mo_up f_Mo_up_J22 f_Mo_up_J34
      rw [v1, s_Mo_above (n := n) (K := K) (by omega) (fun j hj => (hM.1.2.2 j hj).1) hw hc, bn_q, hq, if_pos (oI_ge (by omega))]
      simp only [lt_]
      rw [if_neg (show ¬ oI (some q) < 0 from nI_pos (by omega))]
      rfl
theorem ok_down {k : Nat} (hI : Inv TY PC PM k σ) (v : Int32) : Ok TY PC PM (k + 1) σ (f_Be_down v) (f_Mo_down v) := by
  obtain ⟨⟨n, c, K, F, T⟩, p, kp, pb, ch, Hs, Ps, hk2, h⟩ := id hI
  have ho := h.1
  have hn : n ≤ 40 := ho.1.2.1
  have hc : c < n := ho.1.2.2.1
  have hw : wf K n := okP_wf ho.1
  have hz : σ.1 (cP p) 4 = nI n := h.2.1.2.2.2.1.1
  have ec : σ.1 (cP p) 5 = nI c := h.2.1.2.2.2.1.2.1
  have pt := s_Pr_part hn hz h.2.1.2.2.2.1.2.2 hw v hc
  have mo : ∀ s, atM s (n, c, K, F, T) → f_Mo_down v s = if v < 0 then some (0, s) else if v < nI (ar (K c)) then bn (f_Mo_part (nI c) v s) fun (r7 : Int32) (σ6 : Mem) => some ((1 : Int32), sI σ6 15 1 r7) else some (0, s) := fun s q => by
    obtain ⟨u1, u2⟩ := atM_cu q hc
    unfold f_Mo_down f_Mo_down_J20
    rw [u1, gd_t (inb_nI (by omega) (by decide)), nI_cl (by omega), u2, s_Mo_parts, bn_q, u1]
    rfl
  have no : (if v = 0 ∧ 1 ≤ ar (K c) then nI (c + 1) else if v = 1 ∧ ar (K c) = 2 then nI (eN K (c + 1)) else -1) = -1 → (v < 0 ∨ ¬ v < nI (ar (K c))) → Ok TY PC PM (k + 1) σ (f_Be_down v) (f_Mo_down v) := fun e hv => by
    refine Ok_same hI (r := 0) ?_ ?_
    · unfold f_Be_down
      rw [IV_present h, bn_q, gd_t (IV_p h), ec, pt, bn_q, e, s_moveNo, bn_q]
      rfl
    · rw [mo σ h.2.2.1.1]
      rcases hv with hv | hv
      · rw [if_pos hv]
      · rw [if_neg hv]
        split <;> rfl
  have yes : ∀ c', c' < n → (if v = 0 ∧ 1 ≤ ar (K c) then nI (c + 1) else if v = 1 ∧ ar (K c) = 2 then nI (eN K (c + 1)) else -1) = nI c' → ¬ v < 0 → v < nI (ar (K c)) → (if v = 0 then nI (c + 1) else nI (eN K (c + 1))) = nI c' → c + 1 < n → Ok TY PC PM (k + 1) σ (f_Be_down v) (f_Mo_down v) := fun c' hc' e hv hv2 e2 hcn => by
    refine ⟨1, sI σ (cP p) 5 (nI c'), _, ?_, ?_, _, _, _, _, _, _, _, (by omega : ch ≤ k + 1), IV_move h (c' := c') hc'⟩
    · unfold f_Be_down
      rw [IV_present h, bn_q, gd_t (IV_p h), ec, pt, bn_q, e, s_moveTo (IV_present h) h.2.1.1 (by omega), bn_q]
      rfl
    · have hM := MV_fr h.2.2.1 (S := isP p) (fr_rI σ (upd (σ.1 (cP p)) 5 (nI c')) (isP_0 p)) (fun c hc q => by have := isP_ge q; unfold mE at hc; omega)
      rw [mo _ hM.1, if_neg hv, if_pos hv2, s_Mo_part (n := n) (K := K) (by omega) (fun j hj => (hM.1.2.2 j hj).1) hw v hcn, bn_q, e2]
  rcases pk_ix v (n := 2) (by decide) with a | a | ⟨j, hj, rfl⟩
  · refine no ?_ (Or.inl a)
    rw [if_neg (fun q => by rw [q.1] at a; exact absurd a (by decide)), if_neg (fun q => by rw [q.1] at a; exact absurd a (by decide))]
  · have e1 : ¬ v = 0 := fun q => by rw [q] at a; exact absurd a (by decide)
    have e2 : ¬ v = 1 := fun q => by rw [q] at a; exact absurd a (by decide)
    refine no ?_ (Or.inr (fun q => ?_))
    · rw [if_neg (fun q => e1 q.1), if_neg (fun q => e2 q.1)]
    · have h3 := ar_le (K c)
      have h4 : nI (ar (K c)) ≤ nI 2 := nI_le h3 (by decide)
      rw [Int32.le_iff_toInt_le] at a h4
      rw [Int32.lt_iff_toInt_lt] at q
      omega
  · have hp : ¬ nI j < 0 := nI_pos (by omega)
    have h3 := ar_le (K c)
    have hl : nI j < nI (ar (K c)) ↔ j < ar (K c) := nIlt (by omega) (by omega)
    rcases (by omega : ar (K c) = 0 ∨ ar (K c) = 1 ∨ ar (K c) = 2) with z | z | z
    · refine no ?_ (Or.inr (fun q => by have := hl.mp q; omega))
      rw [if_neg (fun q => by omega), if_neg (fun q => by omega)]
    · obtain ⟨e1, e2, e3⟩ := wf_ar1 hw hc z
      have w2 := (wf_at hw hc).2.2
      rcases (by omega : j = 0 ∨ j = 1) with rfl | rfl
      · exact yes (c + 1) (by omega) (if_pos ⟨rfl, by omega⟩) hp (hl.mpr (by omega)) (if_pos rfl) (by omega)
      · refine no ?_ (Or.inr (fun q => by have := hl.mp q; omega))
        rw [if_neg (fun q => absurd q.1 (by decide)), if_neg (fun q => by omega)]
    · obtain ⟨e1, e2, e3, e4⟩ := wf_ar2 hw hc z
      have w2 := (wf_at hw hc).2.2
      rcases (by omega : j = 0 ∨ j = 1) with rfl | rfl
      · exact yes (c + 1) (by omega) (if_pos ⟨rfl, by omega⟩) hp (hl.mpr (by omega)) (if_pos rfl) (by omega)
      · refine yes (eN K (c + 1)) (by omega) ?_ hp (hl.mpr (by omega)) (if_neg (by decide)) (by omega)
        rw [if_neg (fun q => absurd q.1 (by decide)), if_pos ⟨rfl, z⟩]
theorem ok_kind {k : Nat} (hI : Inv TY PC PM k σ) : Ok TY PC PM (k + 1) σ f_Be_kind f_Mo_kind := by
  obtain ⟨⟨n, c, K, F, T⟩, p, kp, pb, ch, Hs, Ps, hk2, h⟩ := id hI
  have hn : n ≤ 40 := h.1.1.2.1
  have hc : c < n := h.1.1.2.2.1
  have ec : σ.1 (cP p) 5 = nI c := h.2.1.2.2.2.1.2.1
  have ek : σ.1 (cPk p) c = K c := (h.2.1.2.2.2.1.2.2 c hc).1
  obtain ⟨u1, u2⟩ := atM_cu h.2.2.1.1 hc
  refine Ok_same hI (r := K c) ?_ ?_
  · unfold f_Be_kind
    rw [IV_present h, bn_q, gd_t (IV_p h), ec, gd_t (inb_nI (by omega) (by decide)), nI_cl (by omega), ek]
  · unfold f_Mo_kind
    rw [u1, gd_t (inb_nI (by omega) (by decide)), nI_cl (by omega), u2]
theorem ok_terms {k : Nat} (hI : Inv TY PC PM k σ) : Ok TY PC PM (k + 1) σ f_Be_terms f_Mo_terms := by
  obtain ⟨⟨n, c, K, F, T⟩, p, kp, pb, ch, Hs, Ps, hk2, h⟩ := id hI
  have ec : σ.1 (cP p) 4 = nI n := h.2.1.2.2.2.1.1
  have em : σ.1 15 0 = nI n := h.2.2.1.1.1
  refine Ok_same hI (r := nI n) ?_ ?_
  · unfold f_Be_terms
    rw [IV_present h, bn_q, gd_t (IV_p h), ec]
  · unfold f_Mo_terms
    rw [em]
theorem ok_result {k : Nat} (hI : Inv TY PC PM k σ) : Ok TY PC PM (k + 1) σ f_Be_result f_Mo_result := by
  obtain ⟨A, p, kp, pb, ch, Hs, Ps, hk2, h⟩ := id hI
  refine Ok_same hI (r := σ.1 15 25) ?_ rfl
  unfold f_Be_result
  rw [h.2.2.2.2.2.1]
theorem ok_units {k : Nat} (hI : Inv TY PC PM k σ) : Ok TY PC PM (k + 1) σ f_Be_units f_Mo_units := by
  obtain ⟨A, p, kp, pb, ch, Hs, Ps, hk2, h⟩ := id hI
  refine Ok_same hI (r := σ.1 15 24) ?_ rfl
  unfold f_Be_units
  rw [h.2.2.2.2.2.2]
end UNDO
