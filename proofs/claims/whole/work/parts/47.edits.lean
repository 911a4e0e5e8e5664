/-! what edits make of a row of terms; and that the class's edits make just that -/
def insF {α : Type} (x : Nat → α) (a : Nat) (v : α) : Nat → α := fun j => if j < a then x j else if j = a then v else x (j - 1)
def cn {α : Type} (v : α) (x : Nat → α) : Nat → α := fun j => if j = 0 then v else x (j - 1)
theorem ins_a {α : Type} {x : Nat → α} {a j : Nat} {v : α} (h : j < a) : insF x a v j = x j := if_pos h
theorem ins_b {α : Type} {x : Nat → α} {a : Nat} {v : α} : insF x a v a = v := by
  unfold insF
  rw [if_neg (by omega), if_pos rfl]
theorem ins_c {α : Type} {x : Nat → α} {a j : Nat} {v : α} (h : a < j) : insF x a v j = x (j - 1) := by
  unfold insF
  rw [if_neg (by omega), if_neg (by omega)]
theorem ins_mv {α : Type} {x : Nat → α} {a n j : Nat} {v : α} (ha : a ≤ n) (hj : j < n + 1) {u : (Nat → α) → Nat → α → Nat → α} (hu : ∀ g k w q, u g k w q = if q = k then w else g q) : u (va_cpy x x a (a + 1) (n - a)) a v j = insF x a v j := by
  rw [hu]
  rcases Nat.lt_trichotomy j a with h | h | h
  · rw [if_neg (by omega), pk_cpy_out (by omega), ins_a h]
  · subst h
    rw [if_pos rfl, ins_b]
  · rw [if_neg (by omega), pk_cpy_in (by omega) (by omega), ins_c h]
    congr 1
    omega
section CN
variable {S : Nat → Int32} {g m0 : Nat} {k : Int32}
theorem cn_0 : cn k S 0 = k := rfl
theorem cn_s (j : Nat) : cn k S (j + 1) = S j := by
  unfold cn
  rw [if_neg (by omega), Nat.add_sub_cancel]
theorem cn_tm (h : tm S g 0 = some m0) : tm (cn k S) g 1 = some (m0 + 1) := by
  have h1 := tm_move (K' := cn k S) h (i' := 1) (fun j _ _ => by
    have e : 1 + (j - 0) = j + 1 := by omega
    rw [e]
    exact cn_s j)
  rw [h1]
  congr 1
  omega
theorem cn_tm1 (hk : ar k = 1) (h : tm S g 0 = some m0) : tm (cn k S) (g + 1) 0 = some (m0 + 1) := by
  rw [tm_one (by rw [cn_0]; exact hk)]
  exact cn_tm h
theorem cn_eN (hg : g ≤ 64) (h : tm S g 0 = some m0) {j : Nat} (hj : j < m0) : eN (cn k S) (j + 1) = eN S j + 1 := by
  obtain ⟨e', g1, g2, _⟩ := tm_sub h (Nat.zero_le j) hj
  have l1 := tm_lt g1
  have h1 := tm_move (K' := cn k S) g1 (i' := j + 1) (fun q _ _ => by
    have e : j + 1 + (q - j) = q + 1 := by omega
    rw [e]
    exact cn_s q)
  rw [eN_of hg h1, eN_of hg g1]
  omega
/-- depth in a row with one place in front that ends at or behind the row's end -/
theorem cn_dp (hg : g ≤ 64) (h : tm S g 0 = some m0) (h0 : m0 + 1 ≤ eN (cn k S) 0) {j : Nat} (hj : j < m0) : dp (cn k S) (j + 1) = dp S j + 1 := by
  unfold dp
  rw [Nat.add_comm j 1, cp_split]
  have e1 : (List.range 1).countP (fun q => decide (1 + j < eN (cn k S) q)) = 1 := by
    have : decide (1 + j < eN (cn k S) 0) = true := decide_eq_true (by omega)
    simp [List.range_succ, this]
  have e2 : (List.range j).countP (fun q => decide (1 + j < eN (cn k S) (1 + q))) = (List.range j).countP (fun q => decide (j < eN S q)) := by
    refine cp_eq j (fun q hq => ?_)
    rw [Nat.add_comm 1 q, cn_eN hg h (by omega)]
    by_cases hz : j < eN S q
    · rw [decide_eq_true hz, decide_eq_true (by omega)]
    · rw [decide_eq_false hz, decide_eq_false (by omega)]
  rw [e1, e2]
  omega
theorem dp_0 (X : Nat → Int32) : dp X 0 = 0 := rfl
end CN
section INS
variable {K : Nat → Int32} {n c f0 : Nat} {kd : Int32}
theorem ins_spl {α : Type} (x : Nat → α) {c e : Nat} (v : α) (h : c ≤ e) : spl x (cn v (fun j => x (c + j))) c e (e - c + 1) = insF x c v := by
  funext j
  unfold spl insF cn
  repeat' split
  all_goals first | rfl | (exfalso; omega) | (congr 1; omega) | (dsimp only; congr 1; omega)
theorem seg_at (hw : wf K n) (h0 : tm K f0 0 = some n) (hf : f0 ≤ 64) (hc : c < n) : tm K f0 c = some (eN K c) := by
  obtain ⟨e', g1, _, _⟩ := tm_sub h0 (Nat.zero_le c) hc
  rw [g1, eN_of hf g1]
/-- one part: FUNCTION, CLAIM -/
theorem ins1 (hw : wf K n) (h0 : tm K f0 0 = some n) (hf : f0 + f0 + 1 ≤ 64) (hc : c < n) (hk : ar kd = 1) : wf (insF K c kd) (n + 1) ∧ (∀ j, j < c → dp (insF K c kd) j = dp K j) ∧ dp (insF K c kd) c = dp K c ∧ (∀ j, c ≤ j → j < eN K c → dp (insF K c kd) (j + 1) = dp K j + 1) ∧ (∀ j, eN K c ≤ j → j < n → dp (insF K c kd) (j + 1) = dp K j) := by
  obtain ⟨_, l1, l2⟩ := wf_at hw hc
  have hs := seg_tm hw hc (seg_at hw h0 (by omega) hc)
  have hX := cn_tm1 (k := kd) hk hs
  have e0 := ins_spl K kd (c := c) (e := eN K c) (by omega)
  have hl := spl_len hw hc rfl h0 (by omega) hX
  rw [e0] at hl
  have en : n + (eN K c - c + 1) - (eN K c - c) = n + 1 := by omega
  rw [en] at hl
  have hx0 : eN (cn kd (fun j => K (c + j))) 0 = eN K c - c + 1 := eN_of (by omega) hX
  refine ⟨hl, fun j hj => ?_, ?_, fun j h1 h2 => ?_, fun j h1 h2 => ?_⟩
  · rw [← e0]
    exact spl_dp_a hw hc rfl h0 (by omega) hX hj
  · have := spl_dp_b hw hc rfl h0 (by omega) hX (j := 0) (by omega)
    rw [← e0]
    rw [dp_0] at this
    exact this
  · have := spl_dp_b hw hc rfl h0 (by omega) hX (j := j - c + 1) (by omega)
    rw [e0, cn_dp (by omega) hs (by omega) (by omega)] at this
    have h3 := seg_dp hw hc (j := j - c) (by omega)
    have e1 : c + (j - c + 1) = j + 1 := by omega
    have e2 : c + (j - c) = j := by omega
    rw [e1] at this
    rw [e2] at h3
    omega
  · have := spl_dp_c hw hc rfl h0 (by omega) hX (o := j) h1 h2
    rw [e0] at this
    have e1 : j + (c + (eN K c - c + 1)) - eN K c = j + 1 := by omega
    rw [e1] at this
    exact this
/-- two parts, the HOLE first -/
theorem ins2b (hw : wf K n) (h0 : tm K f0 0 = some n) (hf : f0 + f0 + 2 ≤ 64) (hc : c < n) (hk : ar kd = 2) : wf (insF (insF K c kd) (c + 1) 0) (n + 2) ∧ (∀ j, j < c → dp (insF (insF K c kd) (c + 1) 0) j = dp K j) ∧ dp (insF (insF K c kd) (c + 1) 0) c = dp K c ∧ dp (insF (insF K c kd) (c + 1) 0) (c + 1) = dp K c + 1 ∧ (∀ j, c ≤ j → j < eN K c → dp (insF (insF K c kd) (c + 1) 0) (j + 2) = dp K j + 1) ∧ (∀ j, eN K c ≤ j → j < n → dp (insF (insF K c kd) (c + 1) 0) (j + 2) = dp K j) := by
  obtain ⟨_, l1, l2⟩ := wf_at hw hc
  have hs := seg_tm hw hc (seg_at hw h0 (by omega) hc)
  have hS1 : tm (cn 0 (fun j => K (c + j))) f0 1 = some (eN K c - c + 1) := cn_tm hs
  have hX2 : tm (cn kd (cn 0 (fun j => K (c + j)))) (f0 + 1) 2 = some (eN K c - c + 2) := by
    have h1 := tm_move (K' := cn kd (cn 0 (fun j => K (c + j)))) hS1 (i' := 2) (fun j h _ => by
      have e : 2 + (j - 1) = j + 1 := by omega
      rw [e]
      exact cn_s j)
    rw [tm_mono h1 (by omega)]
    congr 1
    omega
  have hX : tm (cn kd (cn 0 (fun j => K (c + j)))) (f0 + 2) 0 = some (eN K c - c + 2) := by
    rw [tm_two (by rw [cn_0]; exact hk)]
    have h1 : tm (cn kd (cn 0 (fun j => K (c + j)))) (f0 + 1) (0 + 1) = some 2 := by
      obtain ⟨q, rfl⟩ : ∃ q, f0 = q + 1 := by
        cases f0 with
        | zero => cases h0
        | succ q => exact ⟨q, rfl⟩
      exact tm_leaf (by show ar 0 = 0; decide)
    rw [h1]
    exact hX2
  have e0 : spl K (cn kd (cn 0 (fun j => K (c + j)))) c (eN K c) (eN K c - c + 2) = insF (insF K c kd) (c + 1) 0 := by
    funext j
    unfold spl insF cn
    repeat' split
    all_goals first | rfl | (exfalso; omega) | (congr 1; omega) | (dsimp only; congr 1; omega)
  have hl := spl_len hw hc rfl h0 (by omega) hX
  rw [e0] at hl
  have en : n + (eN K c - c + 2) - (eN K c - c) = n + 2 := by omega
  rw [en] at hl
  have hx0 : eN (cn kd (cn 0 (fun j => K (c + j)))) 0 = eN K c - c + 2 := eN_of (by omega) hX
  have hx1 : eN (cn kd (cn 0 (fun j => K (c + j)))) 1 = 2 := eN_of (f := 1) (by omega) (tm_leaf (by show ar 0 = 0; decide))
  have hx2 : ∀ j, j < eN K c - c → eN (cn kd (cn 0 (fun j => K (c + j)))) (j + 2) = eN (fun j => K (c + j)) j + 2 := by
    intro j hj
    obtain ⟨e', g1, g2, _⟩ := tm_sub hs (Nat.zero_le j) hj
    have l1 := tm_lt g1
    have h1 := tm_move (K' := cn kd (cn 0 (fun j => K (c + j)))) g1 (i' := j + 2) (fun q _ _ => by
      have e : j + 2 + (q - j) = q + 1 + 1 := by omega
      rw [e, cn_s, cn_s])
    rw [eN_of (by omega) h1, eN_of (by omega) g1]
    omega
  have hd2 : ∀ j, j < eN K c - c → dp (cn kd (cn 0 (fun j => K (c + j)))) (j + 2) = dp (fun j => K (c + j)) j + 1 := by
    intro j hj
    unfold dp
    rw [Nat.add_comm j 2, cp_split]
    have e1 : (List.range 2).countP (fun q => decide (2 + j < eN (cn kd (cn 0 (fun j => K (c + j)))) q)) = 1 := by
      have a1 : decide (2 + j < eN (cn kd (cn 0 (fun j => K (c + j)))) 0) = true := decide_eq_true (by omega)
      have a2 : decide (2 + j < eN (cn kd (cn 0 (fun j => K (c + j)))) 1) = false := decide_eq_false (by omega)
      simp [List.range_succ, a1, a2]
    have e2 : (List.range j).countP (fun q => decide (2 + j < eN (cn kd (cn 0 (fun j => K (c + j)))) (2 + q))) = (List.range j).countP (fun q => decide (j < eN (fun j => K (c + j)) q)) := by
      refine cp_eq j (fun q hq => ?_)
      rw [Nat.add_comm 2 q, hx2 q (by omega)]
      by_cases hz : j < eN (fun j => K (c + j)) q
      · rw [decide_eq_true hz, decide_eq_true (by omega)]
      · rw [decide_eq_false hz, decide_eq_false (by omega)]
    rw [e1, e2]
    omega
  have hd1 : dp (cn kd (cn 0 (fun j => K (c + j)))) 1 = 1 := by
    unfold dp
    have a1 : decide (1 < eN (cn kd (cn 0 (fun j => K (c + j)))) 0) = true := decide_eq_true (by omega)
    simp [List.range_succ, a1]
  refine ⟨hl, fun j hj => ?_, ?_, ?_, fun j h1 h2 => ?_, fun j h1 h2 => ?_⟩
  · rw [← e0]
    exact spl_dp_a hw hc rfl h0 (by omega) hX hj
  · have := spl_dp_b hw hc rfl h0 (by omega) hX (j := 0) (by omega)
    rw [← e0]
    rw [dp_0] at this
    exact this
  · have := spl_dp_b hw hc rfl h0 (by omega) hX (j := 1) (by omega)
    rw [e0, hd1] at this
    exact this
  · have := spl_dp_b hw hc rfl h0 (by omega) hX (j := j - c + 2) (by omega)
    rw [e0, hd2 _ (by omega)] at this
    have h3 := seg_dp hw hc (j := j - c) (by omega)
    have e1 : c + (j - c + 2) = j + 2 := by omega
    have e2 : c + (j - c) = j := by omega
    rw [e1] at this
    rw [e2] at h3
    omega
  · have := spl_dp_c hw hc rfl h0 (by omega) hX (o := j) h1 h2
    rw [e0] at this
    have e1 : j + (c + (eN K c - c + 2)) - eN K c = j + 2 := by omega
    rw [e1] at this
    exact this
end INS
