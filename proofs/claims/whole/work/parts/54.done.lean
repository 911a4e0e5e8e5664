/-! the reference's move and done -/
def slT (a b : Nat) (σ σ' : Mem) : Prop := σ'.1 19 b = σ.1 19 a ∧ σ'.1 20 b = σ.1 20 a ∧ ∀ j, j < 40 → σ'.1 21 (40 * b + j) = σ.1 21 (40 * a + j) ∧ σ'.1 22 (40 * b + j) = σ.1 22 (40 * a + j) ∧ σ'.2 23 (40 * b + j) = σ.2 23 (40 * a + j)
theorem atS_slT {σ σ' : Mem} {a b : Nat} {A : Pg} (h : atS σ a A) (hn : A.1 ≤ 40) (hs : slT a b σ σ') : atS σ' b A := by
  obtain ⟨h1, h2, h3⟩ := h
  obtain ⟨s1, s2, s3⟩ := hs
  exact ⟨by rw [s1]; exact h1, by rw [s2]; exact h2, rr_of h3 (fun j hj => (s3 j (by omega)).1) (fun j hj _ => (s3 j (by omega)).2.1) (fun j hj _ => (s3 j (by omega)).2.2)⟩
theorem slT_E {a b : Nat} {σ σ1 σ2 : Mem} (h1 : slT a b σ σ1) (h2 : slE b σ1 σ2) : slT a b σ σ2 := ⟨h2.1.trans h1.1, h2.2.1.trans h1.2.1, fun j hj => ⟨(h2.2.2 j hj).1.trans (h1.2.2 j hj).1, (h2.2.2 j hj).2.1.trans (h1.2.2 j hj).2.1, (h2.2.2 j hj).2.2.trans (h1.2.2 j hj).2.2⟩⟩
theorem slE_T {a b : Nat} {σ σ1 σ2 : Mem} (h1 : slE a σ σ1) (h2 : slT a b σ1 σ2) : slT a b σ σ2 := ⟨h2.1.trans h1.1, h2.2.1.trans h1.2.1, fun j hj => ⟨(h2.2.2 j hj).1.trans (h1.2.2 j hj).1, (h2.2.2 j hj).2.1.trans (h1.2.2 j hj).2.1, (h2.2.2 j hj).2.2.trans (h1.2.2 j hj).2.2⟩⟩
theorem slE_rf (s : Nat) (σ : Mem) : slE s σ σ := ⟨rfl, rfl, fun _ _ => ⟨rfl, rfl, rfl⟩⟩
theorem s_Mo_move {σ : Mem} {a b : Nat} (ha : a < 33) (hb : b < 33) (hab : a ≠ b) : ∃ σ', f_Mo_move (nI a) (nI b) σ = some ((), σ') ∧ fr mS σ σ' ∧ slT a b σ σ' ∧ ∀ s', s' ≠ b → slE s' σ σ' := by
  obtain ⟨x21, hx21⟩ : ∃ x : Nat → Int32, x = fun j => σ.1 21 (40 * a + j) := ⟨_, rfl⟩
  obtain ⟨x22, hx22⟩ : ∃ x : Nat → Int32, x = fun j => σ.1 22 (40 * a + j) := ⟨_, rfl⟩
  obtain ⟨x23, hx23⟩ : ∃ x : Nat → Int64, x = fun j => σ.2 23 (40 * a + j) := ⟨_, rfl⟩
  have key : ∀ (d m : Nat) (σ1 : Mem), m + d = 40 → fr mS σ σ1 → rawS σ1 (upd (σ.1 19) b (σ.1 19 a)) (upd (σ.1 20) b (σ.1 20 a)) (svA (σ.1 21) x21 b m) (svA (σ.1 22) x22 b m) (svA (σ.2 23) x23 b m) → ∃ σ', loopF (fun (q : (Int32 × Mem)) => f_Mo_move_L26 (nI a) (nI b) q.1 q.2) (d + 1) (nI m, σ1) = some ((), σ') ∧ fr mS σ σ' ∧ rawS σ' (upd (σ.1 19) b (σ.1 19 a)) (upd (σ.1 20) b (σ.1 20 a)) (svA (σ.1 21) x21 b 40) (svA (σ.1 22) x22 b 40) (svA (σ.2 23) x23 b 40) := by
    intro d
    induction d with
    | zero =>
      intro m σ1 hm g1 h1
      obtain rfl : m = 40 := by omega
      refine ⟨σ1, lp_exit ?_, g1, h1⟩
      show f_Mo_move_L26 (nI a) (nI b) (nI 40) σ1 = _
      unfold f_Mo_move_L26
      rw [if_pos (by decide)]
      rfl
    | succ d ih =>
      intro m σ1 hm g1 h1
      obtain ⟨σ2, hσ2⟩ : ∃ x, x = rI σ1 21 (svA (σ.1 21) x21 b (m + 1)) := ⟨_, rfl⟩
      have h2 := rawS_k h1 (svA (σ.1 21) x21 b (m + 1))
      have g2 : fr mS σ (rI σ1 21 (svA (σ.1 21) x21 b (m + 1))) := fr_tr g1 (fr_rI _ _ m21)
      rw [← hσ2] at h2 g2
      obtain ⟨σ3, hσ3⟩ : ∃ x, x = rI σ2 22 (svA (σ.1 22) x22 b (m + 1)) := ⟨_, rfl⟩
      have h3 := rawS_f h2 (svA (σ.1 22) x22 b (m + 1))
      have g3 : fr mS σ (rI σ2 22 (svA (σ.1 22) x22 b (m + 1))) := fr_tr g2 (fr_rI _ _ m22)
      rw [← hσ3] at h3 g3
      obtain ⟨σ4, hσ4⟩ : ∃ x, x = rL σ3 23 (svA (σ.2 23) x23 b (m + 1)) := ⟨_, rfl⟩
      have h4 := rawS_t h3 (svA (σ.2 23) x23 b (m + 1))
      have g4 : fr mS σ (rL σ3 23 (svA (σ.2 23) x23 b (m + 1))) := fr_tr g3 (fr_rL _ _ m23)
      rw [← hσ4] at h4 g4
      obtain ⟨σ', i1, i2, i3⟩ := ih (m + 1) σ4 (by omega) g4 h4
      refine ⟨σ', lp_step (b := (nI (m + 1), σ4)) ?_ i1, i2, i3⟩
      show f_Mo_move_L26 (nI a) (nI b) (nI m) σ1 = _
      unfold f_Mo_move_L26
      rw [if_neg (show ¬ (40 : Int32) ≤ nI m from fun q => by have := (nIle (a := 40) (by omega) (by omega)).mp q; omega), n40, n40]
      simp only [lt_]
      have ok1 : inb (nI (40 * a + m)) 1320 = true := inb_nI (by omega) (by decide)
      have ok2 : inb (nI (40 * b + m)) 1320 = true := inb_nI (by omega) (by decide)
      rw [gd_t ok1, gd_t ok2, gd_t ok1, gd_t ok2, gd_t ok1, gd_t ok2, nI_clamp (by omega), nI_clamp (by omega)]
      unfold sI sL
      have v1 : svA (σ.1 21) x21 b m (40 * a + m) = x21 m := by rw [svA_out _ _ (by omega) (by omega) hab, hx21]
      have v2 : svA (σ.1 22) x22 b m (40 * a + m) = x22 m := by rw [svA_out _ _ (by omega) (by omega) hab, hx22]
      have v3 : svA (σ.2 23) x23 b m (40 * a + m) = x23 m := by rw [svA_out _ _ (by omega) (by omega) hab, hx23]
      rw [h1.2.2.1, v1, svA_s (σ.1 21) x21 b m (u := upd) (fun _ _ _ _ => rfl), ← hσ2, h2.2.2.2.1, v2, svA_s (σ.1 22) x22 b m (u := upd) (fun _ _ _ _ => rfl), ← hσ3, h3.2.2.2.2, v3, svA_s (σ.2 23) x23 b m (u := vp_updL) (fun _ _ _ _ => rfl), ← hσ4, nI_1]
  obtain ⟨σ1, hσ1⟩ : ∃ x, x = rI σ 19 (upd (σ.1 19) b (σ.1 19 a)) := ⟨_, rfl⟩
  have h0 : rawS σ (σ.1 19) (σ.1 20) (σ.1 21) (σ.1 22) (σ.2 23) := ⟨rfl, rfl, rfl, rfl, rfl⟩
  have h1 := rawS_0 h0 (upd (σ.1 19) b (σ.1 19 a))
  have g1 : fr mS σ (rI σ 19 (upd (σ.1 19) b (σ.1 19 a))) := fr_rI _ _ m19
  rw [← hσ1] at h1 g1
  obtain ⟨σ2, hσ2⟩ : ∃ x, x = rI σ1 20 (upd (σ.1 20) b (σ.1 20 a)) := ⟨_, rfl⟩
  have h2 := rawS_1 h1 (upd (σ.1 20) b (σ.1 20 a))
  have g2 : fr mS σ (rI σ1 20 (upd (σ.1 20) b (σ.1 20 a))) := fr_tr g1 (fr_rI _ _ m20)
  rw [← hσ2] at h2 g2
  obtain ⟨σ', i1, i2, i3⟩ := key 40 0 σ2 (by omega) g2 (by rw [svA_0, svA_0, svA_0]; exact h2)
  refine ⟨σ', ?_, i2, ⟨?_, ?_, fun j hj => ⟨?_, ?_, ?_⟩⟩, fun s' hs' => ⟨?_, ?_, fun j hj => ⟨?_, ?_, ?_⟩⟩⟩
  · unfold f_Mo_move
    simp only [lt_]
    rw [gd_t (inb_nI ha (by decide)), gd_t (inb_nI hb (by decide)), gd_t (inb_nI ha (by decide)), gd_t (inb_nI hb (by decide)), nI_clamp (by omega), nI_clamp (by omega)]
    unfold sI
    rw [← hσ1, h1.2.1, ← hσ2]
    exact lp_FU i1 (by decide)
  · rw [i3.1, pk_us]
  · rw [i3.2.1, pk_us]
  · rw [i3.2.2.1, svA_in _ _ hj, hx21]
  · rw [i3.2.2.2.1, svA_in _ _ hj, hx22]
  · rw [i3.2.2.2.2, svA_in _ _ hj, hx23]
  · rw [i3.1, pk_un hs']
  · rw [i3.2.1, pk_un hs']
  · rw [i3.2.2.1, svA_out _ _ (by omega) hj hs']
  · rw [i3.2.2.2.1, svA_out _ _ (by omega) hj hs']
  · rw [i3.2.2.2.2, svA_out _ _ (by omega) hj hs']
def mSo (c : Nat) : Prop := c = 15 ∨ mS c
/-- the end of an edit that fits: the program before it is kept in slot kp -/
theorem s_done104 {σ : Mem} {kp : Nat} (hkp : kp < 16) (h5 : σ.1 15 5 = nI kp) (to v2 v3 : Int32) : ∃ σ', f_Mo_done_J104 to v2 v3 σ = some (1, σ') ∧ fr mSo σ σ' ∧ slT 32 kp σ σ' ∧ (∀ s', s' ≠ kp → slE s' σ σ') ∧ σ'.1 15 5 = nI (kp + 1) ∧ σ'.1 15 6 = 0 ∧ σ'.1 15 1 = to ∧ σ'.1 15 12 = 0 ∧ σ'.1 15 16 = 0 ∧ ∀ q, q ≠ 5 → q ≠ 6 → q ≠ 1 → q ≠ 12 → q ≠ 16 → σ'.1 15 q = σ.1 15 q := by
  obtain ⟨σ1, a1, a2, a3, a4⟩ := s_Mo_move (σ := σ) (a := 32) (b := kp) (by decide) (by omega) (by omega)
  have o1 : σ1.1 15 = σ.1 15 := (a2 15 (by unfold mS; omega)).1
  obtain ⟨O, hO⟩ : ∃ O, O = upd (upd (upd (upd (upd (σ.1 15) 5 (nI (kp + 1))) 6 0) 1 to) 12 0) 16 0 := ⟨_, rfl⟩
  have l32 : (32 : Int32) = nI 32 := rfl
  have hfin : f_Mo_done_J104 to v2 v3 σ = some (1, rI (rI (rI (rI (rI σ1 15 (upd (σ.1 15) 5 (nI (kp + 1)))) 15 (upd (upd (σ.1 15) 5 (nI (kp + 1))) 6 0)) 15 (upd (upd (upd (σ.1 15) 5 (nI (kp + 1))) 6 0) 1 to)) 15 (upd (upd (upd (upd (σ.1 15) 5 (nI (kp + 1))) 6 0) 1 to) 12 0)) 15 O) := by
    unfold f_Mo_done_J104
    rw [h5, l32, a1, bn_q]
    simp only [lt_]
    unfold sI
    rw [o1, h5, nI_1, rI_at, rI_at, rI_at, rI_at, ← hO]
  have g : fr mSo σ1 (rI (rI (rI (rI (rI σ1 15 (upd (σ.1 15) 5 (nI (kp + 1)))) 15 (upd (upd (σ.1 15) 5 (nI (kp + 1))) 6 0)) 15 (upd (upd (upd (σ.1 15) 5 (nI (kp + 1))) 6 0) 1 to)) 15 (upd (upd (upd (upd (σ.1 15) 5 (nI (kp + 1))) 6 0) 1 to) 12 0)) 15 O) := fr_tr (fr_tr (fr_tr (fr_tr (fr_rI _ _ (Or.inl rfl)) (fr_rI _ _ (Or.inl rfl))) (fr_rI _ _ (Or.inl rfl))) (fr_rI _ _ (Or.inl rfl))) (fr_rI _ _ (Or.inl rfl))
  have g15 : fr (fun c => c = 15) σ1 (rI (rI (rI (rI (rI σ1 15 (upd (σ.1 15) 5 (nI (kp + 1)))) 15 (upd (upd (σ.1 15) 5 (nI (kp + 1))) 6 0)) 15 (upd (upd (upd (σ.1 15) 5 (nI (kp + 1))) 6 0) 1 to)) 15 (upd (upd (upd (upd (σ.1 15) 5 (nI (kp + 1))) 6 0) 1 to) 12 0)) 15 O) := fr_tr (fr_tr (fr_tr (fr_tr (fr_rI _ _ rfl) (fr_rI _ _ rfl)) (fr_rI _ _ rfl)) (fr_rI _ _ rfl)) (fr_rI _ _ rfl)
  have oF : (rI (rI (rI (rI (rI σ1 15 (upd (σ.1 15) 5 (nI (kp + 1)))) 15 (upd (upd (σ.1 15) 5 (nI (kp + 1))) 6 0)) 15 (upd (upd (upd (σ.1 15) 5 (nI (kp + 1))) 6 0) 1 to)) 15 (upd (upd (upd (upd (σ.1 15) 5 (nI (kp + 1))) 6 0) 1 to) 12 0)) 15 O).1 15 = O := rI_at _ _ _
  have gE : ∀ s', slE s' σ1 (rI (rI (rI (rI (rI σ1 15 (upd (σ.1 15) 5 (nI (kp + 1)))) 15 (upd (upd (σ.1 15) 5 (nI (kp + 1))) 6 0)) 15 (upd (upd (upd (σ.1 15) 5 (nI (kp + 1))) 6 0) 1 to)) 15 (upd (upd (upd (upd (σ.1 15) 5 (nI (kp + 1))) 6 0) 1 to) 12 0)) 15 O) := fun s' => slE_fr g15 (fun c hc => by unfold mS at hc; omega)
  refine ⟨_, hfin, fr_tr (fr_mono a2 (fun c q => Or.inr q)) g, slT_E a3 (gE kp), fun s' hs' => slE_tr (a4 s' hs') (gE s'), ?_, ?_, ?_, ?_, ?_, fun q q5 q6 q1 q12 q16 => ?_⟩
  · rw [oF, hO, pk_un (by decide), pk_un (by decide), pk_un (by decide), pk_un (by decide), pk_us]
  · rw [oF, hO, pk_un (by decide), pk_un (by decide), pk_un (by decide), pk_us]
  · rw [oF, hO, pk_un (by decide), pk_un (by decide), pk_us]
  · rw [oF, hO, pk_un (by decide), pk_us]
  · rw [oF, hO, pk_us]
  · rw [oF, hO, pk_un q16, pk_un q12, pk_un q1, pk_un q6, pk_un q5]
/-- what slots hold behind an edit that fits -/
def pushed (kp : Nat) (σ σ' : Mem) : Prop := (kp < 16 → slT 32 kp σ σ' ∧ ∀ s', s' < kp → slE s' σ σ') ∧ (kp = 16 → slT 32 15 σ σ' ∧ ∀ s', s' < 15 → slT (s' + 1) s' σ σ')
theorem s_done51 {σ : Mem} {kp : Nat} (hkp : kp ≤ 16) (h5 : σ.1 15 5 = nI kp) (to v3 : Int32) : ∃ σ', f_Mo_done_J51 to 1 v3 σ = some (1, σ') ∧ fr mSo σ σ' ∧ pushed kp σ σ' ∧ σ'.1 15 5 = nI (min (kp + 1) 16) ∧ σ'.1 15 6 = 0 ∧ σ'.1 15 1 = to ∧ σ'.1 15 12 = 0 ∧ σ'.1 15 16 = 0 ∧ ∀ q, q ≠ 5 → q ≠ 6 → q ≠ 1 → q ≠ 12 → q ≠ 16 → σ'.1 15 q = σ.1 15 q := by
  unfold f_Mo_done_J51
  rw [if_neg (by decide), h5]
  have l16 : (16 : Int32) = nI 16 := rfl
  by_cases hk : kp = 16
  · subst hk
    rw [if_pos (show nI 16 = 16 from rfl)]
    have key : ∀ (d m : Nat) (σ1 : Mem), m + d = 16 → 1 ≤ m → fr mS σ σ1 → (∀ s', s' < m - 1 → slT (s' + 1) s' σ σ1) → (∀ s', m - 1 ≤ s' → slE s' σ σ1) → ∃ σ', loopF (fun (q : (Int32 × Mem)) => f_Mo_done_L74 to 1 q.1 q.2) (d + 1) (nI m, σ1) = some (1, σ') ∧ fr mSo σ σ' ∧ slT 32 15 σ σ' ∧ (∀ s', s' < 15 → slT (s' + 1) s' σ σ') ∧ σ'.1 15 5 = nI 16 ∧ σ'.1 15 6 = 0 ∧ σ'.1 15 1 = to ∧ σ'.1 15 12 = 0 ∧ σ'.1 15 16 = 0 ∧ ∀ q, q ≠ 5 → q ≠ 6 → q ≠ 1 → q ≠ 12 → q ≠ 16 → σ'.1 15 q = σ.1 15 q := by
      intro d
      induction d with
      | zero =>
        intro m σ1 hm h1 g1 t1 e1
        obtain rfl : m = 16 := by omega
        have o1 : σ1.1 15 = σ.1 15 := (g1 15 (by unfold mS; omega)).1
        obtain ⟨σ2, hσ2⟩ : ∃ x, x = rI σ1 15 (upd (σ.1 15) 5 (nI 15)) := ⟨_, rfl⟩
        have o2 : (rI σ1 15 (upd (σ.1 15) 5 (nI 15))).1 15 = upd (σ.1 15) 5 (nI 15) := rI_at _ _ _
        have g2 : fr (fun c => c = 15) σ1 (rI σ1 15 (upd (σ.1 15) 5 (nI 15))) := fr_rI _ _ rfl
        rw [← hσ2] at o2 g2
        have gE : ∀ s', slE s' σ1 σ2 := fun s' => slE_fr g2 (fun c hc => by unfold mS at hc; omega)
        obtain ⟨σ', b1, b2, b3, b4, b5, b6, b7, b8, b9, b10⟩ := s_done104 (σ := σ2) (kp := 15) (by decide) (by rw [o2, pk_us]) to 1 (nI 16)
        refine ⟨σ', lp_exit ?_, fr_tr (fr_tr (fr_mono g1 (fun c q => Or.inr q)) (fr_mono g2 (fun c q => Or.inl q))) b2, slE_T (slE_tr (e1 32 (by decide)) (gE 32)) b3, fun s' hs' => slT_E (slT_E (t1 s' (by omega)) (gE s')) (b4 s' (by omega)), b5, b6, b7, b8, b9, fun q q5 q6 q1 q12 q16 => ?_⟩
        · show f_Mo_done_L74 to 1 (nI 16) σ1 = _
          unfold f_Mo_done_L74
          simp only [lt_]
          unfold sI
          have e15 : nI 16 - 1 = nI 15 := nI_pred 15
          rw [if_pos (by decide), o1, h5, e15, ← hσ2, b1]
          rfl
        · rw [b10 q q5 q6 q1 q12 q16, o2, pk_un q5]
      | succ d ih =>
        intro m σ1 hm h1 g1 t1 e1
        obtain ⟨m', rfl⟩ : ∃ m', m = m' + 1 := ⟨m - 1, by omega⟩
        obtain ⟨σ2, a1, a2, a3, a4⟩ := s_Mo_move (σ := σ1) (a := m' + 1) (b := m') (by omega) (by omega) (by omega)
        obtain ⟨σ', i⟩ := ih (m' + 1 + 1) σ2 (by omega) (by omega) (fr_tr g1 a2) (fun s' hs' => by
          by_cases q : s' = m'
          · subst q
            exact slE_T (e1 (s' + 1) (by omega)) a3
          · exact slT_E (t1 s' (by omega)) (a4 s' q)) (fun s' hs' => slE_tr (e1 s' (by omega)) (a4 s' (by omega)))
        refine ⟨σ', lp_step (b := (nI (m' + 1 + 1), σ2)) ?_ i.1, i.2⟩
        show f_Mo_done_L74 to 1 (nI (m' + 1)) σ1 = _
        unfold f_Mo_done_L74
        rw [if_neg (show ¬ (16 : Int32) ≤ nI (m' + 1) from fun q => by have := (nIle (a := 16) (by omega) (by omega)).mp q; omega), nI_pred, a1, bn_q]
        simp only [lt_]
        rw [nI_1]
    obtain ⟨σ', i1, i2, i3, i4, i5, i6⟩ := key 15 1 σ (by decide) (by decide) (fr_rf _ _) (fun s' hs' => by omega) (fun s' _ => slE_rf s' σ)
    refine ⟨σ', ?_, i2, ⟨fun q => by omega, fun _ => ⟨i3, i4⟩⟩, i5, i6⟩
    simp only [lt_]
    exact lp_FU i1 (by decide)
  · rw [if_neg (show ¬ nI kp = 16 from fun q => hk ((nI_eq (by omega) (by omega)).mp q))]
    obtain ⟨σ', b1, b2, b3, b4, b5, b6⟩ := s_done104 (σ := σ) (kp := kp) (by omega) h5 to 1 v3
    refine ⟨σ', b1, b2, ⟨fun _ => ⟨b3, fun s' hs' => b4 s' (by omega)⟩, fun q => absurd q hk⟩, ?_, b6⟩
    rw [b5, Nat.min_eq_left (by omega)]
section DONE
variable {σ : Mem} {n : Nat} {K : Nat → Int32}
theorem s_done_fits (hn : n ≤ 40) (hz : σ.1 15 0 = nI n) (hR : ∀ j, j < n → σ.1 16 j = K j) (hw : wf K n) (hd : ∀ j, j < n → dp K j < 12) {kp : Nat} (hkp : kp ≤ 16) (h5 : σ.1 15 5 = nI kp) (to : Int32) : ∃ σ', f_Mo_done to σ = some (1, σ') ∧ fr mSo σ σ' ∧ pushed kp σ σ' ∧ σ'.1 15 5 = nI (min (kp + 1) 16) ∧ σ'.1 15 6 = 0 ∧ σ'.1 15 1 = to ∧ σ'.1 15 12 = 0 ∧ σ'.1 15 16 = 0 ∧ ∀ q, q ≠ 5 → q ≠ 6 → q ≠ 1 → q ≠ 12 → q ≠ 16 → σ'.1 15 q = σ.1 15 q := by
  obtain ⟨σ', b1, b2⟩ := s_done51 hkp h5 to (nI n)
  refine ⟨σ', ?_, b2⟩
  have key : ∀ (d m : Nat), m + d = n → loopF (fun (q : (Int32 × Int32 × Mem)) => f_Mo_done_L17 to q.1 q.2.1 q.2.2) (d + 1) (1, nI m, σ) = some (1, σ') := by
    intro d
    induction d with
    | zero =>
      intro m hm
      obtain rfl : m = n := by omega
      refine lp_exit ?_
      show f_Mo_done_L17 to 1 (nI m) σ = _
      unfold f_Mo_done_L17
      rw [hz, if_pos ((nIle (by omega) (by omega)).mpr (Nat.le_refl _)), b1]
      rfl
    | succ d ih =>
      intro m hm
      refine lp_step (b := (1, nI (m + 1), σ)) ?_ (ih (m + 1) (by omega))
      show f_Mo_done_L17 to 1 (nI m) σ = _
      unfold f_Mo_done_L17 f_Mo_done_J44
      have hdm := hd m (by omega)
      rw [hz, if_neg (fun q => by have := (nIle (by omega) (by omega)).mp q; omega), if_neg (by decide), s_Mo_depth (by omega) hR hw (by omega), bn_q]
      simp only [lt_]
      rw [if_neg (show ¬ (12 : Int32) < nI (dp K m + 1) from fun q => by have := (nIlt (a := 12) (by omega) (by omega)).mp q; omega), nI_1]
  unfold f_Mo_done f_Mo_done_J14
  simp only [lt_]
  rw [hz, if_neg (show ¬ (40 : Int32) < nI n from fun q => by have := (nIlt (a := 40) (by omega) (by omega)).mp q; omega)]
  exact lp_FU (key n 0 (by omega)) (by omega)
theorem s_done_no (hn : n ≤ 48) (hz : σ.1 15 0 = nI n) (hR : ∀ j, j < n → σ.1 16 j = K j) (hw : wf K n) (hd : ¬ (n ≤ 40 ∧ ∀ j, j < n → dp K j < 12)) {A : Pg} (hA : atS σ 32 A) (hAn : A.1 ≤ 40) (to : Int32) : ∃ σ', f_Mo_done to σ = some (0, σ') ∧ fr mRo σ σ' ∧ atM σ' A ∧ σ'.1 15 12 = 0 ∧ σ'.1 15 16 = 0 ∧ ∀ q, q ≠ 0 → q ≠ 1 → q ≠ 12 → q ≠ 16 → σ'.1 15 q = σ.1 15 q := by
  obtain ⟨σ', b1, b2⟩ := s_Mo_bring hA hAn (by decide)
  refine ⟨σ', ?_, b2⟩
  have l32 : (32 : Int32) = nI 32 := rfl
  have j51 : ∀ v3, f_Mo_done_J51 to 0 v3 σ = some (0, σ') := by
    intro v3
    unfold f_Mo_done_J51
    rw [if_pos rfl, l32, b1, bn_q]
  have h0 : ∀ (k m : Nat), loopF (fun (q : (Int32 × Int32 × Mem)) => f_Mo_done_L17 to q.1 q.2.1 q.2.2) (k + 1) (0, nI m, σ) = some (0, σ') := by
    intro k m
    refine lp_exit ?_
    show f_Mo_done_L17 to 0 (nI m) σ = _
    unfold f_Mo_done_L17
    by_cases q : σ.1 15 0 ≤ nI m
    · rw [if_pos q, j51]
      rfl
    · rw [if_neg q, if_pos rfl, j51]
      rfl
  have l0 : (0 : Int32) = nI 0 := rfl
  unfold f_Mo_done f_Mo_done_J14
  simp only [lt_]
  rw [hz]
  by_cases h40 : n ≤ 40
  · have hbad : ∃ j, j < n ∧ ¬ dp K j < 12 := Classical.byContradiction (fun q => hd ⟨h40, fun j hj => Classical.byContradiction (fun z => q ⟨j, hj, z⟩)⟩)
    obtain ⟨j, hj, hjd⟩ := hbad
    have key : ∀ (d m : Nat), m + d = j → loopF (fun (q : (Int32 × Int32 × Mem)) => f_Mo_done_L17 to q.1 q.2.1 q.2.2) (d + 2) (1, nI m, σ) = some (0, σ') := by
      intro d
      induction d with
      | zero =>
        intro m hm
        obtain rfl : m = j := by omega
        refine lp_step (b := (0, nI (m + 1), σ)) ?_ (h0 0 (m + 1))
        show f_Mo_done_L17 to 1 (nI m) σ = _
        unfold f_Mo_done_L17 f_Mo_done_J44
        have := sz40 (K := K) h40 hj
        have hb : dp K m < 100 := by
          unfold dp
          have h1 := List.countP_le_length (p := fun k => decide (m < eN K k)) (l := List.range m)
          rw [List.length_range] at h1
          omega
        rw [hz, if_neg (fun q => by have := (nIle (by omega) (by omega)).mp q; omega), if_neg (by decide), s_Mo_depth hn hR hw (by omega), bn_q]
        simp only [lt_]
        rw [if_pos (show (12 : Int32) < nI (dp K m + 1) from (nIlt (a := 12) (by omega) (by omega)).mpr (by omega)), nI_1]
      | succ d ih =>
        intro m hm
        by_cases hdm : dp K m < 12
        · refine lp_step (b := (1, nI (m + 1), σ)) ?_ (ih (m + 1) (by omega))
          show f_Mo_done_L17 to 1 (nI m) σ = _
          unfold f_Mo_done_L17 f_Mo_done_J44
          rw [hz, if_neg (fun q => by have := (nIle (by omega) (by omega)).mp q; omega), if_neg (by decide), s_Mo_depth hn hR hw (by omega), bn_q]
          simp only [lt_]
          rw [if_neg (show ¬ (12 : Int32) < nI (dp K m + 1) from fun q => by have := (nIlt (a := 12) (by omega) (by omega)).mp q; omega), nI_1]
        · refine lp_step (b := (0, nI (m + 1), σ)) ?_ (h0 (d + 1) (m + 1))
          show f_Mo_done_L17 to 1 (nI m) σ = _
          unfold f_Mo_done_L17 f_Mo_done_J44
          have hb : dp K m < 100 := by
            unfold dp
            have h1 := List.countP_le_length (p := fun k => decide (m < eN K k)) (l := List.range m)
            rw [List.length_range] at h1
            omega
          rw [hz, if_neg (fun q => by have := (nIle (by omega) (by omega)).mp q; omega), if_neg (by decide), s_Mo_depth hn hR hw (by omega), bn_q]
          simp only [lt_]
          rw [if_pos (show (12 : Int32) < nI (dp K m + 1) from (nIlt (a := 12) (by omega) (by omega)).mpr (by omega)), nI_1]
    rw [if_neg (show ¬ (40 : Int32) < nI n from fun q => by have := (nIlt (a := 40) (by omega) (by omega)).mp q; omega)]
    exact lp_FU (key j 0 (by omega)) (by omega)
  · rw [if_pos (show (40 : Int32) < nI n from (nIlt (a := 40) (by omega) (by omega)).mpr (by omega))]
    exact lp_FU (h0 0 0) (by decide)
end DONE
