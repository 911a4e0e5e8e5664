/-! SPLICE: the term from s to e gives way to another of m places -/
def spl {α : Type} (K X : Nat → α) (s e m : Nat) : Nat → α := fun j => if j < s then K j else if j < s + m then X (j - s) else K (j + e - (s + m))
theorem spl_a {α : Type} {K X : Nat → α} {s e m j : Nat} (h : j < s) : spl K X s e m j = K j := if_pos h
theorem spl_b {α : Type} {K X : Nat → α} {s e m j : Nat} (h : j < m) : spl K X s e m (s + j) = X j := by
  unfold spl
  rw [if_neg (by omega), if_pos (by omega)]
  congr 1
  omega
theorem spl_c {α : Type} {K X : Nat → α} {s e m o : Nat} (h : e ≤ o) (hse : s ≤ e) : spl K X s e m (o + (s + m) - e) = K o := by
  unfold spl
  rw [if_neg (by omega), if_neg (by omega)]
  congr 1
  omega
theorem cp_split {P : Nat → Bool} (a : Nat) : ∀ b, (List.range (a + b)).countP P = (List.range a).countP P + (List.range b).countP (fun k => P (a + k)) := by
  intro b
  induction b with
  | zero => simp
  | succ b ih =>
    rw [← Nat.add_assoc, List.range_succ, List.countP_append, ih, List.range_succ, List.countP_append]
    simp only [List.countP_cons, List.countP_nil]
    omega
section SPL
variable {K X : Nat → Int32} {n s e m g f0 : Nat}
theorem spl_tm (hw : wf K n) (hs : s < n) (he : eN K s = e) (hX : tm X g 0 = some m) : ∀ (f i ei : Nat), tm K f i = some ei → f ≤ 64 → i ≤ s → s < ei → ei ≤ n → tm (spl K X s e m) (f + g) i = some (ei + m - (e - s)) := by
  obtain ⟨_, hse, hen⟩ := wf_at hw hs
  rw [he] at hse hen
  intro f
  induction f with
  | zero => intro i ei h; cases h
  | succ f ih =>
    intro i ei h hf his hsi hin
    rcases Nat.eq_or_lt_of_le his with rfl | hlt
    · have e1 : ei = e := by rw [← he]; exact (eN_of hf h).symm
      subst e1
      have h1 := tm_move (K' := spl K X i ei m) hX (i' := i) (fun j _ hj => by rw [Nat.sub_zero]; exact spl_b hj)
      rw [Nat.sub_zero] at h1
      rw [tm_mono h1 (by omega : g ≤ f + 1 + g)]
      congr 1
      omega
    · have hK : spl K X s e m i = K i := spl_a hlt
      obtain ⟨f', hff, c⟩ := tm_cases h
      obtain rfl : f' = f := by omega
      have eg : f' + 1 + g = (f' + g) + 1 := by omega
      rcases c with ⟨a0, rfl⟩ | ⟨a0, h1⟩ | ⟨a0, d, h1, h2⟩
      · omega
      · rw [eg, tm_one (by rw [hK]; exact a0)]
        exact ih (i + 1) ei h1 (by omega) (by omega) hsi hin
      · have l1 := tm_lt h1
        have l2 := tm_lt h2
        rw [eg, tm_two (by rw [hK]; exact a0)]
        by_cases hd : s < d
        · rw [ih (i + 1) d h1 (by omega) (by omega) hd (by omega)]
          have hed : e ≤ d := by
            have := wf_in hw (i := i + 1) (j := s) (by omega) (by omega) (by rw [eN_of (by omega) h1]; exact hd)
            rw [he, eN_of (by omega) h1] at this
            exact this
          show tm (spl K X s e m) (f' + g) (d + m - (e - s)) = _
          have h3 := tm_move (K' := spl K X s e m) h2 (i' := d + m - (e - s)) (fun j hj _ => by
            have e3 : d + m - (e - s) + (j - d) = j + (s + m) - e := by omega
            rw [e3]
            exact spl_c (by omega) (by omega))
          rw [tm_mono h3 (by omega : f' ≤ f' + g)]
          congr 1
          omega
        · have h3 := tm_move (K' := spl K X s e m) h1 (i' := i + 1) (fun j hj hjd => by
            have e3 : i + 1 + (j - (i + 1)) = j := by omega
            rw [e3]
            exact spl_a (by omega))
          have e4 : i + 1 + (d - (i + 1)) = d := by omega
          rw [e4] at h3
          rw [tm_mono h3 (by omega : f' ≤ f' + g)]
          exact ih d ei h2 (by omega) (by omega) hsi hin
theorem spl_len (hw : wf K n) (hs : s < n) (he : eN K s = e) (h0 : tm K f0 0 = some n) (hf : f0 + g ≤ 64) (hX : tm X g 0 = some m) : wf (spl K X s e m) (n + m - (e - s)) :=
  tm_mono (spl_tm hw hs he hX f0 0 n h0 (by omega) (by omega) hs (Nat.le_refl _)) hf
theorem spl_lo (hw : wf K n) (hs : s < n) {j : Nat} (hj : j < s) (hej : eN K j ≤ s) : eN (spl K X s e m) j = eN K j := by
  obtain ⟨h1, h2, h3⟩ := wf_at hw (i := j) (by omega)
  have h4 := tm_move (K' := spl K X s e m) h1 (i' := j) (fun k hk hke => by
    have e3 : j + (k - j) = k := by omega
    rw [e3]
    exact spl_a (by omega))
  rw [eN_of (Nat.le_refl _) h4]
  omega
theorem spl_anc (hw : wf K n) (hs : s < n) (he : eN K s = e) (h0 : tm K f0 0 = some n) (hf : f0 + g ≤ 64) (hX : tm X g 0 = some m) {j : Nat} (hj : j < s) (hej : s < eN K j) : e ≤ eN K j ∧ eN (spl K X s e m) j = eN K j + m - (e - s) := by
  have h5 := wf_in hw (i := j) (j := s) (by omega) (by omega) hej
  rw [he] at h5
  obtain ⟨e', g1, g2, _⟩ := tm_sub h0 (Nat.zero_le j) (by omega : j < n)
  have g3 : eN K j = e' := eN_of (by omega) g1
  have g4 := spl_tm hw hs he hX f0 j e' g1 (by omega) (by omega) (by omega) g2
  refine ⟨h5, ?_⟩
  rw [eN_of hf g4, g3]
theorem spl_in (hX : tm X g 0 = some m) (hg : g ≤ 64) {j : Nat} (hj : j < m) : eN (spl K X s e m) (s + j) = s + eN X j := by
  obtain ⟨e', g1, g2, _⟩ := tm_sub hX (Nat.zero_le j) hj
  have h4 := tm_move (K' := spl K X s e m) g1 (i' := s + j) (fun k hk hke => by
    have e3 : s + j + (k - j) = s + k := by omega
    rw [e3]
    exact spl_b (by omega))
  have := tm_lt g1
  rw [eN_of hg h4, eN_of hg g1]
  omega
theorem spl_hi (hw : wf K n) (hse : s ≤ e) {o : Nat} (ho : e ≤ o) (hon : o < n) : eN (spl K X s e m) (o + (s + m) - e) = eN K o + (s + m) - e := by
  obtain ⟨h1, h2, h3⟩ := wf_at hw hon
  have h4 := tm_move (K' := spl K X s e m) h1 (i' := o + (s + m) - e) (fun k hk hke => by
    have e3 : o + (s + m) - e + (k - o) = k + (s + m) - e := by omega
    rw [e3]
    exact spl_c (by omega) hse)
  rw [eN_of (Nat.le_refl _) h4]
  omega
theorem spl_dp_a (hw : wf K n) (hs : s < n) (he : eN K s = e) (h0 : tm K f0 0 = some n) (hf : f0 + g ≤ 64) (hX : tm X g 0 = some m) {j : Nat} (hj : j < s) : dp (spl K X s e m) j = dp K j := by
  obtain ⟨_, hse, hen⟩ := wf_at hw hs
  rw [he] at hse hen
  unfold dp
  refine cp_eq j (fun k hk => ?_)
  by_cases hq : eN K k ≤ s
  · rw [spl_lo hw hs (by omega) hq]
  · obtain ⟨h1, h2⟩ := spl_anc hw hs he h0 hf hX (j := k) (by omega) (by omega)
    rw [h2, decide_eq_true (by omega), decide_eq_true (by omega)]
theorem spl_dp_b (hw : wf K n) (hs : s < n) (he : eN K s = e) (h0 : tm K f0 0 = some n) (hf : f0 + g ≤ 64) (hX : tm X g 0 = some m) {j : Nat} (hj : j < m) : dp (spl K X s e m) (s + j) = dp K s + dp X j := by
  obtain ⟨_, hse, hen⟩ := wf_at hw hs
  rw [he] at hse hen
  unfold dp
  rw [cp_split]
  have h1 : (List.range s).countP (fun k => decide (s + j < eN (spl K X s e m) k)) = (List.range s).countP (fun k => decide (s < eN K k)) := by
    refine cp_eq s (fun k hk => ?_)
    by_cases hq : eN K k ≤ s
    · rw [spl_lo hw hs hk hq, decide_eq_false (by omega), decide_eq_false (by omega)]
    · obtain ⟨h1, h2⟩ := spl_anc hw hs he h0 hf hX hk (by omega)
      rw [h2, decide_eq_true (by omega), decide_eq_true (by omega)]
  have h2 : (List.range j).countP (fun k => decide (s + j < eN (spl K X s e m) (s + k))) = (List.range j).countP (fun k => decide (j < eN X k)) := by
    refine cp_eq j (fun k hk => ?_)
    rw [spl_in hX (by omega) (by omega)]
    by_cases hq : j < eN X k
    · rw [decide_eq_true hq, decide_eq_true (by omega)]
    · rw [decide_eq_false hq, decide_eq_false (by omega)]
  rw [h1, h2]
theorem spl_dp_c (hw : wf K n) (hs : s < n) (he : eN K s = e) (h0 : tm K f0 0 = some n) (hf : f0 + g ≤ 64) (hX : tm X g 0 = some m) {o : Nat} (ho : e ≤ o) (hon : o < n) : dp (spl K X s e m) (o + (s + m) - e) = dp K o := by
  obtain ⟨_, hse, hen⟩ := wf_at hw hs
  rw [he] at hse hen
  obtain ⟨t, rfl⟩ : ∃ t, o = e + t := ⟨o - e, by omega⟩
  have e1 : e + t + (s + m) - e = (s + m) + t := by omega
  unfold dp
  rw [e1, cp_split (s + m) t, cp_split s m]
  have ee : e + t = (s + (e - s)) + t := by omega
  rw [show (List.range (e + t)).countP (fun k => decide (e + t < eN K k)) = (List.range ((s + (e - s)) + t)).countP (fun k => decide (e + t < eN K k)) by rw [← ee], cp_split (s + (e - s)) t, cp_split s (e - s)]
  have h1 : (List.range s).countP (fun k => decide (s + m + t < eN (spl K X s e m) k)) = (List.range s).countP (fun k => decide (e + t < eN K k)) := by
    refine cp_eq s (fun k hk => ?_)
    by_cases hq : eN K k ≤ s
    · rw [spl_lo hw hs hk hq, decide_eq_false (by omega), decide_eq_false (by omega)]
    · obtain ⟨h1, h2⟩ := spl_anc hw hs he h0 hf hX hk (by omega)
      rw [h2]
      by_cases hz : e + t < eN K k
      · rw [decide_eq_true hz, decide_eq_true (by omega)]
      · rw [decide_eq_false hz, decide_eq_false (by omega)]
  have h2 : (List.range m).countP (fun k => decide (s + m + t < eN (spl K X s e m) (s + k))) = 0 := by
    rw [List.countP_eq_zero]
    intro k hk
    have hk := List.mem_range.mp hk
    obtain ⟨e', g1, g2, _⟩ := tm_sub hX (Nat.zero_le k) hk
    rw [spl_in hX (by omega) hk, eN_of (by omega) g1]
    simp
    omega
  have h3 : (List.range (e - s)).countP (fun k => decide (e + t < eN K (s + k))) = 0 := by
    rw [List.countP_eq_zero]
    intro k hk
    have hk := List.mem_range.mp hk
    have := wf_in hw (i := s) (j := s + k) hs (by omega) (by omega)
    simp
    omega
  have h4 : (List.range t).countP (fun k => decide (s + m + t < eN (spl K X s e m) (s + m + k))) = (List.range t).countP (fun k => decide (e + t < eN K (s + (e - s) + k))) := by
    refine cp_eq t (fun k hk => ?_)
    have e2 : s + m + k = (e + k) + (s + m) - e := by omega
    have e3 : s + (e - s) + k = e + k := by omega
    have l1 := (wf_at hw (i := e + k) (by omega)).2.1
    rw [e2, e3, spl_hi hw (by omega) (by omega) (by omega)]
    by_cases hz : e + t < eN K (e + k)
    · rw [decide_eq_true hz, decide_eq_true (by omega)]
    · rw [decide_eq_false hz, decide_eq_false (by omega)]
  rw [h1, h2, h3, h4]
/-- a term on its own -/
theorem seg_tm (hw : wf K n) {c f : Nat} (hc : c < n) (h : tm K f c = some (eN K c)) : tm (fun j => K (c + j)) f 0 = some (eN K c - c) := by
  have h1 := tm_move (K' := fun j => K (c + j)) h (i' := 0) (fun j hj _ => by
    show K (c + (0 + (j - c))) = K j
    congr 1
    omega)
  rw [Nat.zero_add] at h1
  exact h1
theorem seg_eN (hw : wf K n) {c j : Nat} (hc : c < n) (hj : c + j < eN K c) : eN (fun j => K (c + j)) j = eN K (c + j) - c := by
  obtain ⟨_, _, h3⟩ := wf_at hw hc
  obtain ⟨h1, h2, _⟩ := wf_at hw (i := c + j) (by omega)
  have h4 := tm_move (K' := fun j => K (c + j)) h1 (i' := j) (fun k hk _ => by
    show K (c + (j + (k - (c + j)))) = K k
    congr 1
    omega)
  rw [eN_of (Nat.le_refl _) h4]
  omega
theorem seg_dp (hw : wf K n) {c j : Nat} (hc : c < n) (hj : c + j < eN K c) : dp K (c + j) = dp K c + dp (fun j => K (c + j)) j := by
  unfold dp
  rw [cp_split]
  have h1 : (List.range c).countP (fun k => decide (c + j < eN K k)) = (List.range c).countP (fun k => decide (c < eN K k)) := by
    refine cp_eq c (fun k hk => ?_)
    by_cases hq : c < eN K k
    · have := wf_in hw (i := k) (j := c) (by omega) (by omega) hq
      rw [decide_eq_true hq, decide_eq_true (by omega)]
    · rw [decide_eq_false hq, decide_eq_false (by omega)]
  have h2 : (List.range j).countP (fun k => decide (c + j < eN K (c + k))) = (List.range j).countP (fun k => decide (j < eN (fun j => K (c + j)) k)) := by
    refine cp_eq j (fun k hk => ?_)
    have l1 := (wf_at hw (i := c + k) (by have := (wf_at hw hc).2.2; omega)).2.1
    rw [seg_eN hw hc (by omega)]
    by_cases hz : c + j < eN K (c + k)
    · rw [decide_eq_true hz, decide_eq_true (by omega)]
    · rw [decide_eq_false hz, decide_eq_false (by omega)]
  rw [h1, h2]
end SPL
