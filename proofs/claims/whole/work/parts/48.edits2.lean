theorem bn_s {α β : Type} {r : α} {σ : Mem} {f : α → Mem → Option β} : bn (some (r, σ)) f = f r σ := rfl
section INS
variable {K : Nat → Int32} {n c f0 : Nat} {kd : Int32}
/-- two parts, the HOLE second -/
theorem ins2a (hw : wf K n) (h0 : tm K f0 0 = some n) (hf : f0 + f0 + 2 ≤ 64) (hc : c < n) (hk : ar kd = 2) : wf (insF (insF K c kd) (eN K c + 1) 0) (n + 2) ∧ (∀ j, j < c → dp (insF (insF K c kd) (eN K c + 1) 0) j = dp K j) ∧ dp (insF (insF K c kd) (eN K c + 1) 0) c = dp K c ∧ (∀ j, c ≤ j → j < eN K c → dp (insF (insF K c kd) (eN K c + 1) 0) (j + 1) = dp K j + 1) ∧ dp (insF (insF K c kd) (eN K c + 1) 0) (eN K c + 1) = dp K c + 1 ∧ (∀ j, eN K c ≤ j → j < n → dp (insF (insF K c kd) (eN K c + 1) 0) (j + 2) = dp K j) := by
  obtain ⟨_, l1, l2⟩ := wf_at hw hc
  have hs := seg_tm hw hc (seg_at hw h0 (by omega) hc)
  obtain ⟨m0, hm0⟩ : ∃ m0, m0 = eN K c - c := ⟨_, rfl⟩
  rw [← hm0] at hs
  obtain ⟨S, hS⟩ : ∃ S : Nat → Int32, S = fun j => K (c + j) := ⟨_, rfl⟩
  rw [← hS] at hs
  obtain ⟨X, hXd⟩ : ∃ X : Nat → Int32, X = insF (cn kd S) (m0 + 1) 0 := ⟨_, rfl⟩
  have x0 : X 0 = kd := by rw [hXd, ins_a (by omega)]; rfl
  have xs : ∀ j, j < m0 → X (j + 1) = S j := fun j hj => by rw [hXd, ins_a (by omega)]; exact cn_s j
  have xe : X (m0 + 1) = 0 := by rw [hXd]; exact ins_b
  have hm : 0 < m0 := tm_lt hs
  have hX1 : ∀ {g j e' : Nat}, tm S g j = some e' → e' ≤ m0 → tm X g (j + 1) = some (e' + 1) := by
    intro g j e' h he
    have h1 := tm_move (K' := X) h (i' := j + 1) (fun q hq hqe => by
      have e : j + 1 + (q - j) = q + 1 := by omega
      rw [e]
      exact xs q (by omega))
    have := tm_lt h
    rw [h1]
    congr 1
    omega
  have hX : tm X (f0 + 2) 0 = some (m0 + 2) := by
    rw [tm_two (by rw [x0]; exact hk), tm_mono (hX1 hs (Nat.le_refl _)) (by omega : f0 ≤ f0 + 1)]
    show tm X (f0 + 1) (m0 + 1) = _
    exact tm_leaf (by rw [xe]; decide)
  have hx0 : eN X 0 = m0 + 2 := eN_of (by omega) hX
  have hx1 : ∀ j, j < m0 → eN X (j + 1) = eN S j + 1 ∧ eN S j ≤ m0 := by
    intro j hj
    obtain ⟨e', g1, g2, _⟩ := tm_sub hs (Nat.zero_le j) hj
    rw [eN_of (by omega) (hX1 g1 g2), eN_of (by omega) g1]
    exact ⟨rfl, g2⟩
  have hd1 : ∀ j, j < m0 → dp X (j + 1) = dp S j + 1 := by
    intro j hj
    unfold dp
    rw [Nat.add_comm j 1, cp_split]
    have e1 : (List.range 1).countP (fun q => decide (1 + j < eN X q)) = 1 := by
      have : decide (1 + j < eN X 0) = true := decide_eq_true (by omega)
      simp [List.range_succ, this]
    have e2 : (List.range j).countP (fun q => decide (1 + j < eN X (1 + q))) = (List.range j).countP (fun q => decide (j < eN S q)) := by
      refine cp_eq j (fun q hq => ?_)
      rw [Nat.add_comm 1 q, (hx1 q (by omega)).1]
      by_cases hz : j < eN S q
      · rw [decide_eq_true hz, decide_eq_true (by omega)]
      · rw [decide_eq_false hz, decide_eq_false (by omega)]
    rw [e1, e2]
    omega
  have hd2 : dp X (m0 + 1) = 1 := by
    unfold dp
    rw [Nat.add_comm m0 1, cp_split]
    have e1 : (List.range 1).countP (fun q => decide (1 + m0 < eN X q)) = 1 := by
      have : decide (1 + m0 < eN X 0) = true := decide_eq_true (by omega)
      simp [List.range_succ, this]
    have e2 : (List.range m0).countP (fun q => decide (1 + m0 < eN X (1 + q))) = 0 := by
      rw [List.countP_eq_zero]
      intro q hq
      have hq := List.mem_range.mp hq
      obtain ⟨a1, a2⟩ := hx1 q hq
      rw [Nat.add_comm 1 q, a1]
      simp
      omega
    rw [e1, e2]
  have e0 : spl K X c (eN K c) (m0 + 2) = insF (insF K c kd) (eN K c + 1) 0 := by
    rw [hXd, hS, hm0]
    funext j
    unfold spl insF cn
    repeat' split
    all_goals first | rfl | (exfalso; omega) | (congr 1; omega) | (dsimp only; congr 1; omega)
  have hl := spl_len hw hc rfl h0 (by omega) hX
  rw [e0] at hl
  have en : n + (m0 + 2) - (eN K c - c) = n + 2 := by omega
  rw [en] at hl
  refine ⟨hl, fun j hj => ?_, ?_, fun j h1 h2 => ?_, ?_, fun j h1 h2 => ?_⟩
  · rw [← e0]
    exact spl_dp_a hw hc rfl h0 (by omega) hX hj
  · have := spl_dp_b hw hc rfl h0 (by omega) hX (j := 0) (by omega)
    rw [← e0]
    rw [dp_0] at this
    exact this
  · have := spl_dp_b hw hc rfl h0 (by omega) hX (j := j - c + 1) (by omega)
    rw [e0, hd1 _ (by omega)] at this
    have h3 := seg_dp hw hc (j := j - c) (by omega)
    rw [← hS] at h3
    have e1 : c + (j - c + 1) = j + 1 := by omega
    have e2 : c + (j - c) = j := by omega
    rw [e1] at this
    rw [e2] at h3
    omega
  · have := spl_dp_b hw hc rfl h0 (by omega) hX (j := m0 + 1) (by omega)
    rw [e0, hd2] at this
    have e1 : c + (m0 + 1) = eN K c + 1 := by omega
    rw [e1] at this
    exact this
  · have := spl_dp_c hw hc rfl h0 (by omega) hX (o := j) h1 h2
    rw [e0] at this
    have e1 : j + (c + (m0 + 2)) - eN K c = j + 2 := by omega
    rw [e1] at this
    exact this
/-- emptied -/
theorem emp (hw : wf K n) (h0 : tm K f0 0 = some n) (hf : f0 + 1 ≤ 64) (hc : c < n) : wf (spl K (fun _ => 0) c (eN K c) 1) (n + 1 - (eN K c - c)) ∧ (∀ j, j < c → dp (spl K (fun _ => 0) c (eN K c) 1) j = dp K j) ∧ dp (spl K (fun _ => 0) c (eN K c) 1) c = dp K c ∧ (∀ o, eN K c ≤ o → o < n → dp (spl K (fun _ => 0) c (eN K c) 1) (o + (c + 1) - eN K c) = dp K o) := by
  have hX : tm (fun _ => (0 : Int32)) 1 0 = some 1 := tm_leaf (by decide)
  refine ⟨spl_len hw hc rfl h0 hf hX, fun j hj => spl_dp_a hw hc rfl h0 hf hX hj, ?_, fun o h1 h2 => spl_dp_c hw hc rfl h0 hf hX h1 h2⟩
  have := spl_dp_b hw hc rfl h0 hf hX (j := 0) (by omega)
  rw [dp_0] at this
  exact this
/-- lifted into its parent's place -/
theorem lif (hw : wf K n) (h0 : tm K f0 0 = some n) (hf : f0 + f0 ≤ 64) {p : Nat} (hc : c < n) (hp : p < n) : wf (spl K (fun j => K (c + j)) p (eN K p) (eN K c - c)) (n + (eN K c - c) - (eN K p - p)) ∧ (∀ j, j < p → dp (spl K (fun j => K (c + j)) p (eN K p) (eN K c - c)) j = dp K j) ∧ (∀ j, c + j < eN K c → dp (spl K (fun j => K (c + j)) p (eN K p) (eN K c - c)) (p + j) + dp K c = dp K p + dp K (c + j)) ∧ (∀ o, eN K p ≤ o → o < n → dp (spl K (fun j => K (c + j)) p (eN K p) (eN K c - c)) (o + (p + (eN K c - c)) - eN K p) = dp K o) := by
  have hs := seg_tm hw hc (seg_at hw h0 (by omega) hc)
  refine ⟨spl_len hw hp rfl h0 hf hs, fun j hj => spl_dp_a hw hp rfl h0 hf hs hj, fun j hj => ?_, fun o h1 h2 => spl_dp_c hw hp rfl h0 hf hs h1 h2⟩
  have h1 := spl_dp_b hw hp rfl h0 hf hs (j := j) (by omega)
  have h2 := seg_dp hw hc hj
  omega
end INS
section WRAP
variable {σ : Mem} {i n c : Nat} {k f : Nat → Int32} {t : Nat → Int64} {l : Nat → Int32}
theorem s_Pr_wrap (h : raw σ i n c k f t l) {lv : Nat → Nat} (hn : n + 1 ≤ 40) (hlv : ∀ j, j < n → l j = nI (lv j) ∧ lv j < 100) {e : Nat} (hc : c < e) (he : e ≤ n) (hin : ∀ j, c < j → j < e → lv c < lv j) (hout : e < n → lv e ≤ lv c) (x y : Int32) (z : Int64) : ∃ σ' k' f' t' l', f_Pr_wrap i x y z σ = some ((), σ') ∧ fr (isP i) σ σ' ∧ raw σ' i (n + 1) (c + 1) k' f' t' l' ∧ (∀ j, j < n + 1 → k' j = insF k c x j ∧ f' j = insF f c y j ∧ t' j = insF t c z j) ∧ (∀ j, j < c → l' j = l j) ∧ l' c = l c ∧ (∀ j, c ≤ j → j < e → l' (j + 1) = nI (lv j + 1)) ∧ (∀ j, e ≤ j → j < n → l' (j + 1) = l j) := by
  unfold f_Pr_wrap
  rw [h.2.1, s_Pr_endR h (by omega) hlv hc he hin hout]
  simp only [bn_s]
  obtain ⟨σ1, a1, a2, a3⟩ := s_Pr_shiftLevels h (b := c) (e := e) 1 (by omega) (by omega)
  rw [a1]
  simp only [bn_s, lt_]
  rw [a3.2.1, gd_t (inb_nI (by omega) (by decide)), nI_clamp (by omega), a3.2.2.2.2.2]
  have b0 : shL l c e 1 c - 1 = l c := by
    unfold shL
    rw [if_pos ⟨Nat.le_refl _, hc⟩, (hlv c (by omega)).1, nI_1, nI_pred]
  rw [b0, nI_1]
  obtain ⟨σ2, b1, b2, b3⟩ := s_Pr_moveTail a3 (a := c) (b := c + 1) (by omega) (by omega) (by omega)
  rw [b1]
  simp only [bn_s]
  rw [b3.2.1]
  obtain ⟨σ3, c1, c2, c3⟩ := s_Pr_write b3 (a := c) (by omega) x y z
  rw [c1]
  simp only [bn_s]
  rw [c3.2.1, gd_t (inb_nI (by omega) (by decide)), nI_clamp (by omega)]
  have d3 := raw_l c3 (upd (σ3.1 (cPl i)) c (l c))
  rw [c3.2.2.2.2.2] at d3
  unfold sI
  rw [c3.2.2.2.2.2]
  have d2 := fr_rI (S := isP i) σ3 (upd (va_cpy (shL l c e 1) (shL l c e 1) c (c + 1) (n - c)) c (l c)) (isP_l i)
  generalize rI σ3 (cPl i) (upd (va_cpy (shL l c e 1) (shL l c e 1) c (c + 1) (n - c)) c (l c)) = σ4 at d2 d3 ⊢
  have en : n + (c + 1) - c = n + 1 := by omega
  rw [en] at d3
  have e3 := raw_c d3 (v := σ4.1 (cP i) 5 + 1) (c + 1) (by rw [d3.2.1]; exact nI_1 c)
  refine ⟨_, _, _, _, _, rfl, ?_, e3, fun j hj => ⟨?_, ?_, ?_⟩, fun j hj => ?_, ?_, fun j h1 h2 => ?_, fun j h1 h2 => ?_⟩
  · exact fr_tr (fr_tr (fr_tr (fr_tr a2 b2) c2) d2) (fr_rI σ4 _ (isP_0 i))
  · exact ins_mv (u := upd) (by omega) hj (fun _ _ _ _ => rfl)
  · exact ins_mv (u := upd) (by omega) hj (fun _ _ _ _ => rfl)
  · exact ins_mv (u := vp_updL) (by omega) hj (fun _ _ _ _ => rfl)
  · rw [pk_un (by omega), pk_cpy_out (by omega)]
    unfold shL
    rw [if_neg (by omega)]
  · rw [pk_us]
  · rw [pk_un (by omega), pk_cpy_in (by omega) (by omega)]
    have e1 : c + (j + 1 - (c + 1)) = j := by omega
    rw [e1]
    unfold shL
    rw [if_pos ⟨h1, h2⟩, (hlv j (by omega)).1, nI_1]
  · rw [pk_un (by omega), pk_cpy_in (by omega) (by omega)]
    have e1 : c + (j + 1 - (c + 1)) = j := by omega
    rw [e1]
    unfold shL
    rw [if_neg (by omega)]
end WRAP
