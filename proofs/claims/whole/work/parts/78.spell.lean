/-! the reference spells its program -/
theorem TM_rI {σ : Mem} {L : Tp} (h : TM σ L) {c : Nat} (f : Nat → Int32) (h1 : 15 ≠ c) (h2 : 27 ≠ c) (h3 : 28 ≠ c) : TM (rI σ c f) L := by
  unfold TM
  rw [rI_ne h1, rI_ne h2, rI_ne h3]
  exact h
theorem frQ_c {a b : Mem} (h : frQ a b) {c : Nat} (h1 : c ≠ 15) (h2 : c ≠ 27) (h3 : c ≠ 28) (h4 : c ≠ 32) : b.1 c = a.1 c ∧ b.2 c = a.2 c := h.1 c (by unfold mPq mPg; omega)
section SPELL
variable {n : Nat} {K F : Nat → Int32} {T : Nat → Int64}
/-- what stands in the rows, as the spelling reads it -/
def RS (n : Nat) (K F : Nat → Int32) (T : Nat → Int64) (σ : Mem) : Prop := σ.1 15 0 = nI n ∧ rowM σ n K F T
theorem RS_Q {σ σ' : Mem} (h : RS n K F T σ) (hf : frQ σ σ') : RS n K F T σ' := by
  unfold RS rowM
  rw [hf.2 0 (by decide), (frQ_c hf (c := 16) (by decide) (by decide) (by decide) (by decide)).1, (frQ_c hf (c := 17) (by decide) (by decide) (by decide) (by decide)).1, (frQ_c hf (c := 18) (by decide) (by decide) (by decide) (by decide)).2]
  exact h
theorem RS_rI {σ : Mem} (h : RS n K F T σ) {c : Nat} (f : Nat → Int32) (h1 : 15 ≠ c) (h2 : 16 ≠ c) (h3 : 17 ≠ c) : RS n K F T (rI σ c f) := by
  unfold RS rowM
  rw [rI_ne h1, rI_ne h2, rI_ne h3]
  exact h
theorem s_opens (hn : n ≤ 40) (hk : okK n K F T) {σ : Mem} (hR : RS n K F T σ) {i : Nat} (hi : i < n) {L : Tp} (hT : TM σ L) (hL : L.length + (opT K F T i).length ≤ 1790) : ∃ σ', f_Mo_opens (nI i) σ = some ((), σ') ∧ TM σ' (L ++ own i (opT K F T i)) ∧ frQ (sI σ 29 i (nI L.length)) σ' := by
  obtain ⟨σ2, e2⟩ : ∃ x, x = sI σ 29 i (nI L.length) := ⟨_, rfl⟩
  have hT2 : TM σ2 L := by rw [e2]; exact TM_rI hT _ (by decide) (by decide) (by decide)
  have hR2 : RS n K F T σ2 := by rw [e2]; exact RS_rI hR _ (by decide) (by decide) (by decide)
  obtain ⟨r1, r2, r3⟩ := hR2.2 i hi
  obtain ⟨k1, k2, k3, k4⟩ := hk i hi
  have gi : inb (nI i) 48 = true := inb_nI (by omega) (by decide)
  have ci : (nI i).toNatClampNeg = i := nI_cl (by omega)
  rw [← e2]
  unfold f_Mo_opens
  rw [gd_t gi, hT.1, ci, ← e2, lt_q, gd_t gi, lt_q, r1]
  rcases k1 with q | q | q | q | q | q | q
  · rw [op_0 q] at hL ⊢
    obtain ⟨σ', a1, a2, a3⟩ := PU_1 63 i σ2 L hT2 hL
    rw [if_pos q, a1, bn_q]
    exact ⟨σ', rfl, a2, frP_Q a3⟩
  · rw [op_1 q] at hL ⊢
    obtain ⟨σ', a1, a2, a3⟩ := P_num (F i) i σ2 L hT2 (by rw [own_len]; exact hL)
    rw [q, if_neg (by decide), if_pos rfl, gd_t gi, r2 (Or.inl q), a1, bn_q]
    exact ⟨σ', rfl, a2, frP_Q a3⟩
  · rw [op_2 q] at hL ⊢
    obtain ⟨σ', a1, a2, a3⟩ := PU_1 (97 + F i) i σ2 L hT2 hL
    rw [q, if_neg (by decide), if_neg (by decide), if_pos rfl, gd_t gi, r2 (Or.inr (Or.inl q)), a1, bn_q]
    exact ⟨σ', rfl, a2, frP_Q a3⟩
  · rw [op_3 q] at hL ⊢
    obtain ⟨σ', a1, a2, a3⟩ := PU_1 40 i σ2 L hT2 hL
    rw [q, if_neg (by decide), if_neg (by decide), if_neg (by decide), if_pos rfl, a1, bn_q]
    exact ⟨σ', rfl, a2, frP_Q a3⟩
  · rw [op_4 q, q, if_neg (by decide), if_neg (by decide), if_neg (by decide), if_neg (by decide), if_neg (by decide), if_neg (by decide)]
    exact ⟨σ2, rfl, by rw [own_0, List.append_nil]; exact hT2, frQ_rf _⟩
  · rw [op_5 q] at hL ⊢
    rw [List.length_append] at hL
    have hL3 : ([91] ++ [97 + F i] ++ [58] : List Int32).length = 3 := rfl
    rw [hL3] at hL
    obtain ⟨m, hm⟩ := okT_x (k4 (Or.inl q))
    obtain ⟨σ3, a1, a2, a3⟩ := PU_1 91 i σ2 L hT2 (by show L.length + 1 ≤ 1790; omega)
    have R3 := RS_Q hR2 (frP_Q a3)
    obtain ⟨σ4, b1, b2, b3⟩ := PU_1 (97 + F i) i σ3 _ a2 (by rw [List.length_append]; show L.length + 1 + 1 ≤ 1790; omega)
    have R4 := RS_Q R3 (frP_Q b3)
    obtain ⟨σ5, c1, c2, c3⟩ := PU_1 58 i σ4 _ b2 (by rw [List.length_append, List.length_append]; show L.length + 1 + 1 + 1 ≤ 1790; omega)
    have R5 := RS_Q R4 (frP_Q c3)
    obtain ⟨σ6, d1, d2, d3⟩ := P_type hm i c2 (by rw [List.length_append, List.length_append, List.length_append]; show L.length + 1 + 1 + 1 + _ ≤ 1790; omega)
    rw [q, if_neg (by decide), if_neg (by decide), if_neg (by decide), if_neg (by decide), if_pos rfl, a1, bn_q, gd_t gi, (R3.2 i hi).2.1 (Or.inr (Or.inr q)), b1, bn_q, c1, bn_q, gd_t gi, (R5.2 i hi).2.2 (Or.inl q)]
    have vt := vN_eq (T i)
    rw [vt, vN_lN (vN_lt _), d1, bn_q]
    refine ⟨σ6, rfl, ?_, frQ_tr (frP_Q a3) (frQ_tr (frP_Q b3) (frQ_tr (frP_Q c3) d3))⟩
    rw [own_ap, own_ap, own_ap, own_1, own_1, own_1, ← List.append_assoc, ← List.append_assoc, ← List.append_assoc]
    exact d2
  · rw [op_6 q] at hL ⊢
    obtain ⟨σ', a1, a2, a3⟩ := PU_1 123 i σ2 L hT2 hL
    rw [q, if_neg (by decide), if_neg (by decide), if_neg (by decide), if_neg (by decide), if_neg (by decide), if_pos rfl, a1, bn_q]
    exact ⟨σ', rfl, a2, frP_Q a3⟩
theorem s_closes (hn : n ≤ 40) (hk : okK n K F T) {σ : Mem} (hR : RS n K F T σ) {i : Nat} (hi : i < n) (ha : 1 ≤ ar (K i)) {L : Tp} (hT : TM σ L) (hL : L.length + (clT K F T i).length ≤ 1790) : ∃ σ', f_Mo_closes (nI i) σ = some ((), σ') ∧ TM σ' (L ++ own i (clT K F T i)) ∧ frQ σ σ' := by
  obtain ⟨r1, r2, r3⟩ := hR.2 i hi
  obtain ⟨k1, k2, k3, k4⟩ := hk i hi
  have gi : inb (nI i) 48 = true := inb_nI (by omega) (by decide)
  have ci : (nI i).toNatClampNeg = i := nI_cl (by omega)
  unfold f_Mo_closes f_Mo_closes_J57
  rw [gd_t gi, ci, r1, gd_t gi]
  rcases k1 with q | q | q | q | q | q | q
  · rw [q] at ha; exact absurd ha (by decide)
  · rw [q] at ha; exact absurd ha (by decide)
  · rw [q] at ha; exact absurd ha (by decide)
  · rw [cl_3 q] at hL ⊢
    obtain ⟨σ', a1, a2, a3⟩ := PU_1 41 i σ L hT hL
    rw [q, if_neg (by decide), if_neg (by decide), a1, bn_q]
    exact ⟨σ', rfl, a2, frP_Q a3⟩
  · rw [cl_4 q] at hL ⊢
    obtain ⟨σ', a1, a2, a3⟩ := PU_1 41 i σ L hT hL
    rw [q, if_neg (by decide), if_neg (by decide), a1, bn_q]
    exact ⟨σ', rfl, a2, frP_Q a3⟩
  · rw [cl_5 q] at hL ⊢
    obtain ⟨σ', a1, a2, a3⟩ := PU_1 93 i σ L hT hL
    rw [q, if_neg (by decide), if_pos rfl, a1, bn_q]
    exact ⟨σ', rfl, a2, frP_Q a3⟩
  · rw [cl_6 q] at hL ⊢
    rw [List.length_append, List.length_append] at hL
    have hL1 : ([58] : List Int32).length = 1 := rfl
    have hL2 : ([125] : List Int32).length = 1 := rfl
    rw [hL1, hL2] at hL
    obtain ⟨m, hm⟩ := okT_x (k4 (Or.inr q))
    obtain ⟨σ3, a1, a2, a3⟩ := PU_1 58 i σ L hT (by show L.length + 1 ≤ 1790; omega)
    have R3 := RS_Q hR (frP_Q a3)
    obtain ⟨σ6, d1, d2, d3⟩ := P_type hm i a2 (by rw [List.length_append]; show L.length + 1 + _ ≤ 1790; omega)
    obtain ⟨σ7, b1, b2, b3⟩ := PU_1 125 i σ6 _ d2 (by rw [List.length_append, List.length_append, own_len]; show L.length + 1 + _ + 1 ≤ 1790; omega)
    have vt := vN_eq (T i)
    rw [q, if_pos rfl, a1, bn_q, gd_t gi, (R3.2 i hi).2.2 (Or.inr q), vt, vN_lN (vN_lt _), d1, bn_q, b1, bn_q]
    refine ⟨σ7, rfl, ?_, frQ_tr (frP_Q a3) (frQ_tr d3 (frP_Q b3))⟩
    rw [own_ap, own_ap, own_1, own_1, ← List.append_assoc, ← List.append_assoc]
    exact b2
end SPELL
