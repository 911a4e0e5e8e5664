section JOIN
variable {σ : Mem} {i n c : Nat} {k f : Nat → Int32} {t : Nat → Int64} {l : Nat → Int32}
/-- levels behind a wrap -/
def wl (lv : Nat → Nat) (c e : Nat) : Nat → Nat := fun j => if j ≤ c then lv j else if j ≤ e then lv (j - 1) + 1 else lv (j - 1)
theorem s_Pr_join (h : raw σ i n c k f t l) {lv : Nat → Nat} (hn : n + 2 ≤ 40) (hlv : ∀ j, j < n → l j = nI (lv j) ∧ lv j < 99) {e : Nat} (hc : c < e) (he : e ≤ n) (hin : ∀ j, c < j → j < e → lv c < lv j) (hout : e < n → lv e ≤ lv c) (x v : Int32) (pl : Nat) (hpl : pl = if v = 0 then e + 1 else c + 1) : ∃ σ' k' f' t' l', f_Pr_join i x v σ = some ((), σ') ∧ fr (isP i) σ σ' ∧ raw σ' i (n + 2) pl k' f' t' l' ∧ (∀ j, j < n + 2 → k' j = insF (insF k c x) pl 0 j ∧ f' j = insF (insF f c 0) pl 0 j ∧ t' j = insF (insF t c 0) pl 0 j ∧ l' j = nI (insF (wl lv c e) pl (lv c + 1) j)) := by
  obtain ⟨σ1, k1, f1, t1, l1, w1, w2, w3, w4, w5, w6, w7, w8⟩ := s_Pr_wrap h (lv := lv) (by omega) (fun j hj => ⟨(hlv j hj).1, by have := (hlv j hj).2; omega⟩) hc he hin hout x 0 0
  have hl1 : ∀ j, j < n + 1 → l1 j = nI (wl lv c e j) ∧ wl lv c e j < 100 := by
    intro j hj
    unfold wl
    rcases Nat.lt_trichotomy j c with q | q | q
    · have := hlv j (by omega)
      rw [if_pos (by omega), w5 j q]
      exact ⟨this.1, by omega⟩
    · subst q
      have := hlv j (by omega)
      rw [if_pos (by omega), w6]
      exact ⟨this.1, by omega⟩
    · have := hlv (j - 1) (by omega)
      rw [if_neg (by omega)]
      by_cases z : j ≤ e
      · rw [if_pos z]
        have h7 := w7 (j - 1) (by omega) (by omega)
        rw [Nat.sub_add_cancel (by omega)] at h7
        exact ⟨h7, by omega⟩
      · rw [if_neg z]
        have h8 := w8 (j - 1) (by omega) (by omega)
        rw [Nat.sub_add_cancel (by omega)] at h8
        exact ⟨by rw [h8]; exact this.1, by omega⟩
  have hend : f_Pr_end i (nI c) σ1 = some (nI (e + 1), σ1) := by
    refine s_Pr_endR w3 (lv := wl lv c e) (by omega) hl1 (by omega) (by omega) (fun j h1 h2 => ?_) (fun h1 => ?_)
    · unfold wl
      rw [if_pos (Nat.le_refl _), if_neg (by omega), if_pos (by omega)]
      by_cases z : j = c + 1
      · subst z
        rw [Nat.add_sub_cancel]
        omega
      · have := hin (j - 1) (by omega) (by omega)
        omega
    · unfold wl
      rw [if_neg (by omega), if_neg (by omega), if_pos (Nat.le_refl _), Nat.add_sub_cancel]
      exact hout (by omega)
  have hJ : f_Pr_join i x v σ = f_Pr_join_J27 i x v (nI c) (nI pl) σ1 := by
    unfold f_Pr_join
    simp only [lt_]
    rw [h.2.1, w1]
    simp only [bn_s]
    by_cases hv : v = 0
    · rw [if_pos hv, hend]
      simp only [bn_s]
      rw [hpl, if_pos hv]
    · rw [if_neg hv, hpl, if_neg hv, nI_1]
  rw [hJ]
  have hp1 : pl ≤ n + 1 := by rw [hpl]; split <;> omega
  have hp2 : c < pl := by rw [hpl]; split <;> omega
  unfold f_Pr_join_J27
  rw [nI_1]
  obtain ⟨σ2, b1, b2, b3⟩ := s_Pr_moveTail w3 (a := pl) (b := pl + 1) (by omega) (by omega) (by omega)
  rw [b1]
  simp only [bn_s]
  obtain ⟨σ3, c1, c2, c3⟩ := s_Pr_write b3 (a := pl) (by omega) 0 0 0
  rw [c1]
  simp only [bn_s, lt_]
  rw [gd_t (inb_nI (by omega) (by decide)), gd_t (inb_nI (by omega) (by decide)), nI_clamp (by omega), nI_clamp (by omega), c3.2.2.2.2.2]
  have lc : va_cpy l1 l1 pl (pl + 1) (n + 1 - pl) c + 1 = nI (lv c + 1) := by
    rw [pk_cpy_out (by omega), w6, (hlv c (by omega)).1, nI_1]
  rw [lc]
  unfold sI
  rw [c3.2.2.2.2.2]
  have d3 := raw_l c3 (upd (va_cpy l1 l1 pl (pl + 1) (n + 1 - pl)) pl (nI (lv c + 1)))
  have d2 := fr_rI (S := isP i) σ3 (upd (va_cpy l1 l1 pl (pl + 1) (n + 1 - pl)) pl (nI (lv c + 1))) (isP_l i)
  generalize rI σ3 (cPl i) (upd (va_cpy l1 l1 pl (pl + 1) (n + 1 - pl)) pl (nI (lv c + 1))) = σ4 at d2 d3 ⊢
  have en : n + 1 + (pl + 1) - pl = n + 2 := by omega
  rw [en] at d3
  have e3 := raw_c d3 (v := nI pl) pl rfl
  refine ⟨_, _, _, _, _, rfl, fr_tr (fr_tr (fr_tr (fr_tr w2 b2) c2) d2) (fr_rI σ4 _ (isP_0 i)), e3, fun j hj => ⟨?_, ?_, ?_, ?_⟩⟩
  · rw [ins_mv (u := upd) (by omega) hj (fun _ _ _ _ => rfl)]
    unfold insF
    rcases Nat.lt_trichotomy j pl with q | q | q
    · rw [if_pos q, if_pos q, (w4 j (by omega)).1]; rfl
    · rw [if_neg (by omega), if_pos q, if_neg (by omega), if_pos q]
    · rw [if_neg (by omega), if_neg (by omega), if_neg (by omega), if_neg (by omega), (w4 (j - 1) (by omega)).1]; rfl
  · rw [ins_mv (u := upd) (by omega) hj (fun _ _ _ _ => rfl)]
    unfold insF
    rcases Nat.lt_trichotomy j pl with q | q | q
    · rw [if_pos q, if_pos q, (w4 j (by omega)).2.1]; rfl
    · rw [if_neg (by omega), if_pos q, if_neg (by omega), if_pos q]
    · rw [if_neg (by omega), if_neg (by omega), if_neg (by omega), if_neg (by omega), (w4 (j - 1) (by omega)).2.1]; rfl
  · rw [ins_mv (u := vp_updL) (by omega) hj (fun _ _ _ _ => rfl)]
    unfold insF
    rcases Nat.lt_trichotomy j pl with q | q | q
    · rw [if_pos q, if_pos q, (w4 j (by omega)).2.2]; rfl
    · rw [if_neg (by omega), if_pos q, if_neg (by omega), if_pos q]
    · rw [if_neg (by omega), if_neg (by omega), if_neg (by omega), if_neg (by omega), (w4 (j - 1) (by omega)).2.2]; rfl
  · rw [ins_mv (u := upd) (by omega) hj (fun _ _ _ _ => rfl)]
    rcases Nat.lt_trichotomy j pl with q | q | q
    · rw [ins_a q, ins_a q, (hl1 j (by omega)).1]
    · subst q
      rw [ins_b, ins_b]
    · rw [ins_c q, ins_c q, (hl1 (j - 1) (by omega)).1]
theorem cut_mv {α : Type} {x : Nat → α} {c e n j : Nat} {v : α} (hc : c < e) (he : e ≤ n) (hj : j < n + 1 - (e - c)) {u : (Nat → α) → Nat → α → Nat → α} (hu : ∀ g k w q, u g k w q = if q = k then w else g q) : u (va_cpy x x e (c + 1) (n - e)) c v j = spl x (fun _ => v) c e 1 j := by
  rw [hu]
  unfold spl
  rcases Nat.lt_trichotomy j c with h | h | h
  · rw [if_neg (by omega), pk_cpy_out (by omega), if_pos h]
  · subst h
    rw [if_pos rfl, if_neg (by omega), if_pos (by omega)]
  · rw [if_neg (by omega), pk_cpy_in (by omega) (by omega), if_neg (by omega), if_neg (by omega)]
    congr 1
    omega
theorem s_Pr_empty (h : raw σ i n c k f t l) {lv : Nat → Nat} (hn : n ≤ 40) (hlv : ∀ j, j < n → l j = nI (lv j) ∧ lv j < 100) {e : Nat} (hc : c < e) (he : e ≤ n) (hin : ∀ j, c < j → j < e → lv c < lv j) (hout : e < n → lv e ≤ lv c) : ∃ σ' k' f' t' l', f_Pr_empty i σ = some ((), σ') ∧ fr (isP i) σ σ' ∧ raw σ' i (n + 1 - (e - c)) c k' f' t' l' ∧ (∀ j, j < n + 1 - (e - c) → k' j = spl k (fun _ => 0) c e 1 j ∧ f' j = spl f (fun _ => 0) c e 1 j ∧ t' j = spl t (fun _ => 0) c e 1 j ∧ l' j = spl l (fun _ => l c) c e 1 j) := by
  unfold f_Pr_empty
  rw [h.2.1, s_Pr_endR h hn hlv hc he hin hout]
  simp only [bn_s]
  rw [h.2.1, nI_1]
  obtain ⟨σ2, b1, b2, b3⟩ := s_Pr_moveTail h (a := e) (b := c + 1) he hn (by omega)
  rw [b1]
  simp only [bn_s]
  rw [b3.2.1]
  obtain ⟨σ3, c1, c2, c3⟩ := s_Pr_write b3 (a := c) (by omega) 0 0 0
  rw [c1]
  simp only [bn_s]
  have en : n + (c + 1) - e = n + 1 - (e - c) := by omega
  rw [en] at c3
  refine ⟨_, _, _, _, _, rfl, fr_tr b2 c2, c3, fun j hj => ⟨?_, ?_, ?_, ?_⟩⟩
  · exact cut_mv (u := upd) hc he hj (fun _ _ _ _ => rfl)
  · exact cut_mv (u := upd) hc he hj (fun _ _ _ _ => rfl)
  · exact cut_mv (u := vp_updL) hc he hj (fun _ _ _ _ => rfl)
  · unfold spl
    rcases Nat.lt_trichotomy j c with h | h | h
    · rw [pk_cpy_out (by omega), if_pos h]
    · subst h
      rw [pk_cpy_out (by omega), if_neg (by omega), if_pos (by omega)]
    · rw [pk_cpy_in (by omega) (by omega), if_neg (by omega), if_neg (by omega)]
      congr 1
      omega
theorem lift_mv {α : Type} {x : Nat → α} {c p ec ep n j : Nat} (hpc : p < c) (hc : c < ec) (hcp : ec ≤ ep) (hp : ep ≤ n) (hj : j < n + (ec - c) - (ep - p)) : va_cpy (va_cpy x x ep ec (n - ep)) (va_cpy x x ep ec (n - ep)) c p (n + ec - ep - c) j = spl x (fun q => x (c + q)) p ep (ec - c) j := by
  unfold spl
  by_cases h : j < p
  · rw [pk_cpy_out (by omega), pk_cpy_out (by omega), if_pos h]
  · rw [pk_cpy_in (by omega) (by omega), if_neg h]
    by_cases z : j < p + (ec - c)
    · rw [if_pos z, pk_cpy_out (by omega)]
    · rw [if_neg z, pk_cpy_in (by omega) (by omega)]
      congr 1
      omega
theorem s_Pr_raise (h : raw σ i n c k f t l) (hn : n ≤ 40) {K F : Nat → Int32} {T : Nat → Int64} (hR : rowC σ i n K F T) (hw : wf K n) (h0 : 0 < c) (hc : c < n) {p : Nat} (hp : up1 K c c = some p) : ∃ σ' k' f' t' l', f_Pr_raise i σ = some ((), σ') ∧ fr (isP i) σ σ' ∧ raw σ' i (n + (eN K c - c) - (eN K p - p)) p k' f' t' l' ∧ (∀ j, j < n + (eN K c - c) - (eN K p - p) → k' j = spl k (fun q => k (c + q)) p (eN K p) (eN K c - c) j ∧ f' j = spl f (fun q => f (c + q)) p (eN K p) (eN K c - c) j ∧ t' j = spl t (fun q => t (c + q)) p (eN K p) (eN K c - c) j ∧ l' j = spl l (fun q => l (c + q) + (-1)) p (eN K p) (eN K c - c) j) := by
  obtain ⟨p', e1, p1, p2, p3, p4⟩ := up_ex hw h0 hc
  obtain rfl : p' = p := Option.some.inj (e1.symm.trans hp)
  obtain ⟨_, q1, q2⟩ := wf_at hw hc
  obtain ⟨_, q3, q4⟩ := wf_at hw (i := p') (by omega)
  have q5 := wf_in hw (i := p') (j := c) (by omega) (by omega) p2
  unfold f_Pr_raise
  rw [h.2.1, s_Pr_parent hn hR hw h0 hc hp]
  simp only [bn_s]
  rw [if_pos (nI_pos' (by omega)), h.2.1, s_Pr_end hn h.1 hR hw hc]
  simp only [bn_s]
  rw [s_Pr_end hn h.1 hR hw (a := p') (by omega)]
  simp only [bn_s]
  obtain ⟨σ1, a1, a2, a3⟩ := s_Pr_moveTail h (a := eN K p') (b := eN K c) q4 hn (by omega)
  rw [a1]
  simp only [bn_s]
  rw [a3.2.1]
  obtain ⟨σ2, b1, b2, b3⟩ := s_Pr_shiftLevels a3 (b := c) (e := eN K c) (-1) (by omega) (by omega)
  rw [b1]
  simp only [bn_s]
  rw [b3.2.1]
  obtain ⟨σ3, c1, c2, c3⟩ := s_Pr_moveTail b3 (a := c) (b := p') (by omega) (by omega) (by omega)
  rw [c1]
  simp only [bn_s, lt_]
  have en : n + eN K c - eN K p' + p' - c = n + (eN K c - c) - (eN K p' - p') := by omega
  rw [en] at c3
  have e3 := raw_c c3 (v := nI p') p' rfl
  refine ⟨_, _, _, _, _, rfl, fr_tr (fr_tr (fr_tr a2 b2) c2) (fr_rI σ3 _ (isP_0 i)), e3, fun j hj => ⟨?_, ?_, ?_, ?_⟩⟩
  · exact lift_mv p1 q1 q5 q4 hj
  · exact lift_mv p1 q1 q5 q4 hj
  · exact lift_mv p1 q1 q5 q4 hj
  · unfold spl
    by_cases z : j < p'
    · rw [pk_cpy_out (by omega), if_pos z]
      unfold shL
      rw [if_neg (by omega), pk_cpy_out (by omega)]
    · rw [pk_cpy_in (by omega) (by omega), if_neg z]
      by_cases z2 : j < p' + (eN K c - c)
      · rw [if_pos z2]
        unfold shL
        rw [if_pos (by omega), pk_cpy_out (by omega)]
      · rw [if_neg z2]
        unfold shL
        rw [if_neg (by omega), pk_cpy_in (by omega) (by omega)]
        congr 1
        omega
end JOIN
