section MTYPE
variable {n : Nat} {K F : Nat → Int32} {T : Nat → Int64} {σ : Mem}
theorem sm_rf (s : St) (j : Nat) : sm s s j := ⟨rfl, rfl, rfl⟩
theorem sm_tr {a b c : St} {j : Nat} (h1 : sm a b j) (h2 : sm b c j) : sm a c j := ⟨h1.1.trans h2.1, h1.2.1.trans h2.2.1, h1.2.2.trans h2.2.2⟩
theorem sm_sy {a b : St} {j : Nat} (h1 : sm a b j) : sm b a j := ⟨h1.1.symm, h1.2.1.symm, h1.2.2.symm⟩
theorem wE_sm (hw : wf K n) {s s' : St} (h : ∀ j, j < n → sm s s' j) {p : Nat} (hp : p < n) : wE K T s p = wE K T s' p := by
  unfold wE
  cases e : up1 K p p with
  | none => rfl
  | some q =>
    obtain ⟨h1, h2, h3⟩ := up1_some e
    have ha : ar (K q) ≠ 0 := fun z => by have := wf_ar0 hw (i := q) (by omega) z; omega
    obtain ⟨a1, a2, a3⟩ := h q (by omega)
    obtain ⟨b1, b2, b3⟩ := h (q + 1) (nx_lt hw (by omega) ha)
    show wF K T (H_ s q) (s.2.1 q) q _ = wF K T (H_ s' q) (s'.2.1 q) q _
    unfold H_
    rw [a2, b1, b3]
/-- no change in a pass: the values are right -/
theorem fix_right (hwf : wf K n) (hk : okK n K F T) (hn : 0 < n) {s s' R : St} (hR : rEs n K F T R R) (h : rEs n K F T s s') (he : ∀ j, j < n → sm s' s j) : ∀ j, j < n → sm s' R j := by
  have h' : rEs n K F T s' s' := fun p hp => by
    obtain ⟨a1, a2, a3⟩ := h p hp
    exact ⟨a1.trans (wE_sm hwf (fun j hj => sm_sy (he j hj)) hp), a2, a3⟩
  intro j hj
  exact spread_all (Q := fun _ => s') (L := 1 + 3 * n) hwf hk (fun t _ => h') hR hn (1 + 3 * n) (Nat.le_refl _) (Nat.le_refl _) j hj
theorem s_passes (hn : n ≤ 40) (hn0 : 0 < n) (hw : wf K n) (hk : okK n K F T) {R : St} (hR : rEs n K F T R R) : ∀ (r t : Nat) (σ : Mem) (Q : Nat → St), t + r = 3 + 3 * n → (∀ i, i < t → rEs n K F T (Q i) (Q (i + 1))) → Q t = st σ → (0 < t → ¬ ∀ j, j < n → sm (Q t) (Q (t - 1)) j) → rowM σ n K F T → σ.1 15 0 = nI n → vE n (st σ) → ∃ σ', loopF (fun (q : (Int32 × Mem)) => f_Mo_type_L52 q.1 q.2) (r + 1) (1, σ) = some ((), σ') ∧ fr mT σ σ' ∧ ∀ j, j < n → sm (st σ') R j := by
  intro r
  induction r with
  | zero =>
    intro t σ Q ht hQ hQt hne
    have S := spread_all hw hk hQ hR hn0
    exact absurd (fun j hj => sm_tr (S t (by omega) (Nat.le_refl _) j hj) (sm_sy (S (t - 1) (by omega) (by omega) j hj))) (hne (by omega))
  | succ r ih =>
    intro t σ Q ht hQ hQt hne hRow hz hv
    obtain ⟨fl, σ1, a1, a2, a3, a4, a5⟩ := s_pass hn hw hk hRow hv n 0 σ (Nat.le_refl _) (fr_rf _ _) hv (fun j _ => sm_rf _ _) (fun j h1 h2 => by omega) ⟨fun _ j h1 h2 => by omega, fun _ => rfl⟩
    have body : f_Mo_type_L52 1 σ = some (.inl (fl, σ1)) := by
      unfold f_Mo_type_L52
      simp only [lt_]
      rw [if_neg (by decide), hz, i32_sub1]
      exact lp_FU a1 (by omega)
    by_cases q : fl = 0
    · refine ⟨σ1, lp_mono (n := 2) (lp_step (b := (fl, σ1)) body (lp_exit ?_)) (by omega), a2, fix_right hw hk hn0 hR a4 (a5.mp q)⟩
      show f_Mo_type_L52 fl σ1 = _
      unfold f_Mo_type_L52
      rw [if_pos q]
      rfl
    · have hz1 : σ1.1 15 0 = nI n := by rw [(a2 15 (by unfold mT; omega)).1]; exact hz
      have key := ih (t + 1) σ1 (fun i => if i ≤ t then Q i else st σ1) (by omega) (fun i hi => by
          by_cases z : i < t
          · show rEs n K F T (if i ≤ t then Q i else st σ1) (if i + 1 ≤ t then Q (i + 1) else st σ1)
            rw [if_pos (by omega), if_pos (by omega)]
            exact hQ i z
          · obtain rfl : i = t := by omega
            show rEs n K F T (if i ≤ i then Q i else st σ1) (if i + 1 ≤ i then Q (i + 1) else st σ1)
            rw [if_pos (by omega), if_neg (by omega), hQt]
            exact a4) (if_neg (by omega)) (fun _ h => q (a5.mpr (fun j hj => by
          have := h j hj
          rw [if_neg (by omega), if_pos (by omega), show t + 1 - 1 = t by omega, hQt] at this
          exact this))) (rowM_fr hRow a2) hz1 a3
      obtain ⟨σ2, b1, b2, b3⟩ := key
      -- a flag that isn't 0 is as good as 1
      have any : loopF (fun (q : (Int32 × Mem)) => f_Mo_type_L52 q.1 q.2) (r + 1) (fl, σ1) = some ((), σ2) := by
        have : f_Mo_type_L52 fl σ1 = f_Mo_type_L52 1 σ1 := by
          unfold f_Mo_type_L52
          rw [if_neg q, if_neg (show ¬ (1 : Int32) = 0 by decide)]
        have e : ∀ k, loopF (fun (q : (Int32 × Mem)) => f_Mo_type_L52 q.1 q.2) (k + 1) (fl, σ1) = loopF (fun (q : (Int32 × Mem)) => f_Mo_type_L52 q.1 q.2) (k + 1) (1, σ1) := fun k => by
          unfold loopF
          dsimp only
          rw [this]
        rw [e]
        exact b1
      exact ⟨σ2, lp_step (b := (fl, σ1)) body any, fr_tr a2 b2, b3⟩
/-- its rows before the first pass -/
theorem s_init (hn : n ≤ 40) (hn0 : 0 < n) (hw : wf K n) (hk : okK n K F T) {R : St} (hR : rEs n K F T R R) : ∀ (d k : Nat) (σ : Mem), k + d = n → rowM σ n K F T → σ.1 15 0 = nI n → (∀ j, j < k → okT ((st σ).1 j) ∧ okW ((st σ).2.1 j)) → ∃ σ', loopF (fun (q : (Int32 × Mem)) => f_Mo_type_L15 q.1 q.2) (d + 1) (nI k, σ) = some ((), σ') ∧ fr mT σ σ' ∧ ∀ j, j < n → sm (st σ') R j := by
  intro d
  induction d with
  | zero =>
    intro k σ hkd hRow hz hv
    obtain ⟨σ', a1, a2, a3⟩ := s_passes hn hn0 hw hk hR (3 + 3 * n) 0 σ (fun _ => st σ) (by omega) (fun i hi => by omega) rfl (fun h => by omega) hRow hz (fun j hj => hv j (by omega))
    refine ⟨σ', lp_exit ?_, a2, a3⟩
    show f_Mo_type_L15 (nI k) σ = _
    unfold f_Mo_type_L15
    simp only [lt_]
    rw [hz, if_pos ((nIle (by omega) (by omega)).mpr (by omega))]
    have := lp_FU a1 (by omega)
    rw [this]
    rfl
  | succ d ih =>
    intro k σ hkd hRow hz hv
    obtain ⟨σ5, e5⟩ : ∃ s, s = sI (sL (sL σ 24 k 1) 25 k 0) 26 k 0 := ⟨_, rfl⟩
    have f5 : fr mT σ σ5 := by rw [e5]; exact fr_tr (fr_tr (fr_rL _ _ (Or.inl rfl)) (fr_rL _ _ (Or.inr (Or.inl rfl)))) (fr_rI _ _ (Or.inr (Or.inr rfl)))
    have c24 : σ5.2 24 = vp_updL (σ.2 24) k 1 := by rw [e5]; show (sL (sL σ 24 k 1) 25 k 0).2 24 = _; rw [rL_ne (by decide), rL_at]
    have c25 : σ5.2 25 = vp_updL (σ.2 25) k 0 := by rw [e5]; show (sL (sL σ 24 k 1) 25 k 0).2 25 = _; rw [rL_at, rL_ne (by decide)]
    obtain ⟨σ', a1, a2, a3⟩ := ih (k + 1) σ5 (by omega) (rowM_fr hRow f5) (by rw [(f5 15 (by unfold mT; omega)).1]; exact hz) (fun j hj => by
      show okT (σ5.2 24 j) ∧ okW (σ5.2 25 j)
      rw [c24, c25]
      by_cases q : j = k
      · rw [q, vL_us, vL_us]; exact ⟨okT_1, Or.inl rfl⟩
      · rw [vL_un q, vL_un q]; exact hv j (by omega))
    refine ⟨σ', lp_step (b := (nI (k + 1), σ5)) ?_ a1, fr_tr f5 a2, a3⟩
    show f_Mo_type_L15 (nI k) σ = _
    unfold f_Mo_type_L15
    simp only [lt_]
    rw [hz, if_neg (fun z => by have := (nIle (by omega) (by omega)).mp z; omega), gd_t (inb_nI (by omega) (by decide)), gd_t (inb_nI (by omega) (by decide)), gd_t (inb_nI (by omega) (by decide)), nI_cl (by omega), nI_1, ← e5]
def mTo (c : Nat) : Prop := c = 15 ∨ mT c
theorem s_Mo_type {c : Nat} {R : St} (h : atM σ (n, c, K, F, T)) (ho : okP (n, c, K, F, T)) (h12 : σ.1 15 12 = 0) (hR : rEs n K F T R R) : ∃ σ', f_Mo_type σ = some ((), σ') ∧ fr mTo σ σ' ∧ σ'.1 15 = upd (σ.1 15) 12 1 ∧ ∀ j, j < n → sm (st σ') R j := by
  have hn : n ≤ 40 := ho.2.1
  have hc : c < n := ho.2.2.1
  obtain ⟨σ1, e1⟩ : ∃ s, s = sI σ 15 12 1 := ⟨_, rfl⟩
  have f1 : fr (fun c => c = 15) σ σ1 := by rw [e1]; exact fr_rI _ _ rfl
  have r15 : σ1.1 15 = upd (σ.1 15) 12 1 := by rw [e1, rI_at]
  have hRow : rowM σ1 n K F T := by
    unfold rowM
    rw [(f1 16 (by omega)).1, (f1 17 (by omega)).1, (f1 18 (by omega)).2]
    exact h.2.2
  obtain ⟨σ', a1, a2, a3⟩ := s_init hn (by omega) (okP_wf ho) ho.2.2.2 hR n 0 σ1 (by omega) hRow (by rw [r15, pk_un (by decide)]; exact h.1) (fun j hj => by omega)
  refine ⟨σ', ?_, fr_tr (fr_mono f1 (fun c q => Or.inl q)) (fr_mono a2 (fun c q => Or.inr q)), ?_, a3⟩
  · unfold f_Mo_type
    rw [h12, if_pos rfl]
    simp only [lt_]
    rw [← e1]
    exact lp_FU a1 (by omega)
  · rw [(a2 15 (by unfold mT; omega)).1]; exact r15
end MTYPE
