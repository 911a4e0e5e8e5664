/-! parts, binders, rooms: the class; ends, terms around, depth: the reference -/
theorem i32_sub1 (x : Int32) : x - 1 = x + (-1) := by
  rw [Int32.sub_eq_add_neg]
section CLS
variable {σ : Mem} {i n : Nat} {K F : Nat → Int32} {T : Nat → Int64}
theorem part_child (hn : n ≤ 40) (hz : σ.1 (cP i) 4 = nI n) (hR : rowC σ i n K F T) {a c : Nat} {v s : Int32} (ha : a < n) (hc : c < n) (hd : dp K c = dp K a + 1) : f_Pr_part_L7 i (nI a) v s (nI c) σ = some (if s = v then .inr (nI c, σ) else .inl (s + 1, nI (c + 1), σ)) := by
  unfold f_Pr_part_L7 f_Pr_part_J61
  rw [hz, if_neg (fun h => by have := (nIle (by omega) (by omega)).mp h; omega), gd_t (inb_nI (by omega) (by omega)), gd_t (inb_nI (by omega) (by omega)), nI_clamp (by omega), nI_clamp (by omega), (hR c hc).2.1, (hR a ha).2.1, hd]
  rw [if_neg (fun h => by have := (nIle (by have := sz40 (K := K) hn hc; omega) (sz40 hn ha)).mp h; omega), gd_t (inb_nI (by omega) (by omega)), gd_t (inb_nI (by omega) (by omega)), if_pos (nI_1 _).symm]
  by_cases hs : s = v
  · rw [if_pos hs, if_pos hs]
    rfl
  · rw [if_neg hs, if_neg hs]
    show some (Sum.inl (s + 1, nI c + 1, σ)) = _
    rw [nI_1]
theorem part_skip (hn : n ≤ 40) (hz : σ.1 (cP i) 4 = nI n) (hR : rowC σ i n K F T) {a c : Nat} {v s : Int32} (ha : a < n) (hc : c < n) (hd : dp K a + 1 < dp K c) : f_Pr_part_L7 i (nI a) v s (nI c) σ = some (.inl (s, nI (c + 1), σ)) := by
  unfold f_Pr_part_L7 f_Pr_part_J61
  have hs := sz40 (K := K) hn hc
  rw [hz, if_neg (fun h => by have := (nIle (by omega) (by omega)).mp h; omega), gd_t (inb_nI (by omega) (by omega)), gd_t (inb_nI (by omega) (by omega)), nI_clamp (by omega), nI_clamp (by omega), (hR c hc).2.1, (hR a ha).2.1]
  rw [if_neg (fun h => by have := (nIle hs (sz40 hn ha)).mp h; omega), gd_t (inb_nI (by omega) (by omega)), gd_t (inb_nI (by omega) (by omega)), nI_1, if_neg (fun h => by have := (nI_eq hs (by omega)).mp h; omega)]
  show some (Sum.inl (s, nI c + 1, σ)) = _
  rw [nI_1]
theorem part_end (hn : n ≤ 40) (hz : σ.1 (cP i) 4 = nI n) (hR : rowC σ i n K F T) (hw : wf K n) {a : Nat} {v s : Int32} (ha : a < n) : f_Pr_part_L7 i (nI a) v s (nI (eN K a)) σ = some (.inr (-1, σ)) := by
  obtain ⟨_, hl, he⟩ := wf_at hw ha
  unfold f_Pr_part_L7 f_Pr_part_J67
  rw [hz]
  by_cases hq : n ≤ eN K a
  · rw [if_pos ((nIle (by omega) (by omega)).mpr hq)]
    rfl
  · rw [if_neg (fun h => hq ((nIle (by omega) (by omega)).mp h)), gd_t (inb_nI (by omega) (by omega)), gd_t (inb_nI (by omega) (by omega)), nI_clamp (by omega), nI_clamp (by omega), (hR _ (by omega)).2.1, (hR a ha).2.1]
    rw [if_pos ((nIle (sz40 hn (by omega)) (sz40 hn ha)).mpr (dp_end hw ha (by omega)))]
    rfl
/-- over a part's own parts -/
theorem part_over (hn : n ≤ 40) (hz : σ.1 (cP i) 4 = nI n) (hR : rowC σ i n K F T) (hw : wf K n) {a c : Nat} {v s : Int32} (ha : a < n) (hc : c < n) (hd : dp K c = dp K a + 1) {z : Int32 × Mem} {k : Nat} (h : loopF (fun (q : (Int32 × Int32 × Mem)) => f_Pr_part_L7 i (nI a) v q.1 q.2.1 q.2.2) k (s, nI (eN K c), σ) = some z) : ∀ (d m : Nat), c < m → m + d = eN K c → loopF (fun (q : (Int32 × Int32 × Mem)) => f_Pr_part_L7 i (nI a) v q.1 q.2.1 q.2.2) (d + k) (s, nI m, σ) = some z := by
  intro d
  obtain ⟨_, _, he⟩ := wf_at hw hc
  induction d with
  | zero =>
    intro m _ hm
    obtain rfl : m = eN K c := by omega
    rw [Nat.zero_add]
    exact h
  | succ d ih =>
    intro m hcm hm
    rw [Nat.succ_add]
    refine lp_step (b := (s, nI (m + 1), σ)) ?_ (ih (m + 1) (by omega) (by omega))
    exact part_skip hn hz hR ha (by omega) (by have := dp_in hw hc hcm (by omega); omega)
theorem s_Pr_part (hn : n ≤ 40) (hz : σ.1 (cP i) 4 = nI n) (hR : rowC σ i n K F T) (hw : wf K n) {a : Nat} (v : Int32) (ha : a < n) : f_Pr_part i (nI a) v σ = some (if v = 0 ∧ 1 ≤ ar (K a) then nI (a + 1) else if v = 1 ∧ ar (K a) = 2 then nI (eN K (a + 1)) else -1, σ) := by
  unfold f_Pr_part lt_
  rw [nI_1]
  have h2 := ar_le (K a)
  obtain ⟨_, hl, he⟩ := wf_at hw ha
  rcases (by omega : ar (K a) = 0 ∨ ar (K a) = 1 ∨ ar (K a) = 2) with h | h | h
  · rw [if_neg (by omega), if_neg (by omega)]
    have e1 := wf_ar0 hw ha h
    refine lp_FU (n := 1) (lp_exit ?_) (by decide)
    show f_Pr_part_L7 i (nI a) v 0 (nI (a + 1)) σ = _
    rw [← e1]
    exact part_end hn hz hR hw ha
  · obtain ⟨e1, e2, e3⟩ := wf_ar1 hw ha h
    by_cases hv : v = 0
    · rw [if_pos ⟨hv, by omega⟩]
      refine lp_FU (n := 1) (lp_exit ?_) (by decide)
      show f_Pr_part_L7 i (nI a) v 0 (nI (a + 1)) σ = _
      rw [part_child hn hz hR ha (by omega) e3, if_pos hv.symm]
    · rw [if_neg (fun q => hv q.1), if_neg (by omega)]
      refine lp_FU (n := (eN K (a + 1) - (a + 2) + 1) + 1) (lp_step (b := (0 + 1, nI (a + 1 + 1), σ)) ?_ ?_) (by omega)
      · show f_Pr_part_L7 i (nI a) v 0 (nI (a + 1)) σ = _
        rw [part_child hn hz hR ha (by omega) e3, if_neg (fun q => hv q.symm)]
      · refine part_over hn hz hR hw ha (c := a + 1) (by omega) e3 (k := 1) (lp_exit ?_) _ _ (by omega) (by omega)
        show f_Pr_part_L7 i (nI a) v (0 + 1) (nI (eN K (a + 1))) σ = _
        rw [e1]
        exact part_end hn hz hR hw ha
  · obtain ⟨e1, e2, e3, e4, e5⟩ := wf_ar2 hw ha h
    by_cases hv : v = 0
    · rw [if_pos ⟨hv, by omega⟩]
      refine lp_FU (n := 1) (lp_exit ?_) (by decide)
      show f_Pr_part_L7 i (nI a) v 0 (nI (a + 1)) σ = _
      rw [part_child hn hz hR ha (by omega) e4, if_pos hv.symm]
    · rw [if_neg (fun q => hv q.1)]
      obtain ⟨_, _, hc1⟩ := wf_at hw (i := eN K (a + 1)) (by omega)
      by_cases hv1 : v = 1
      · rw [if_pos ⟨hv1, h⟩]
        refine lp_FU (n := (eN K (a + 1) - (a + 2) + 1) + 1) (lp_step (b := (0 + 1, nI (a + 1 + 1), σ)) ?_ ?_) (by omega)
        · show f_Pr_part_L7 i (nI a) v 0 (nI (a + 1)) σ = _
          rw [part_child hn hz hR ha (by omega) e4, if_neg (fun q => hv q.symm)]
        · refine part_over hn hz hR hw ha (c := a + 1) (by omega) e4 (k := 1) (lp_exit ?_) _ _ (by omega) (by omega)
          show f_Pr_part_L7 i (nI a) v (0 + 1) (nI (eN K (a + 1))) σ = _
          rw [part_child hn hz hR ha (by omega) e5, if_pos (by rw [hv1]; decide)]
      · rw [if_neg (fun q => hv1 q.1)]
        refine lp_FU (n := (eN K (a + 1) - (a + 2) + ((eN K (eN K (a + 1)) - (eN K (a + 1) + 1) + 1) + 1)) + 1) (lp_step (b := (0 + 1, nI (a + 1 + 1), σ)) ?_ ?_) (by omega)
        · show f_Pr_part_L7 i (nI a) v 0 (nI (a + 1)) σ = _
          rw [part_child hn hz hR ha (by omega) e4, if_neg (fun q => hv q.symm)]
        · refine part_over hn hz hR hw ha (c := a + 1) (by omega) e4 (lp_step (b := (0 + 1 + 1, nI (eN K (a + 1) + 1), σ)) ?_ ?_) _ _ (by omega) (by omega)
          · show f_Pr_part_L7 i (nI a) v (0 + 1) (nI (eN K (a + 1))) σ = _
            rw [part_child hn hz hR ha (by omega) e5, if_neg (fun q => hv1 (by rw [← q]; decide))]
          · refine part_over hn hz hR hw ha (c := eN K (a + 1)) (by omega) e5 (k := 1) (lp_exit ?_) _ _ (by omega) (by omega)
            show f_Pr_part_L7 i (nI a) v (0 + 1 + 1) (nI (eN K (eN K (a + 1)))) σ = _
            rw [e3]
            exact part_end hn hz hR hw ha
end CLS
/-- the innermost FUNCTION around that has the name -/
def bd (K F : Nat → Int32) (a : Nat) : Nat → Option Nat
  | 0 => none
  | m + 1 => if K m = 5 ∧ F m = F a ∧ a < eN K m then some m else bd K F a m
def oI (o : Option Nat) : Int32 := match o with
  | none => -1
  | some k => nI k
section CLS
variable {σ : Mem} {i n : Nat} {K F : Nat → Int32} {T : Nat → Int64}
theorem s_Pr_binder (hn : n ≤ 40) (hR : rowC σ i n K F T) (hw : wf K n) {a : Nat} (ha : a < n) (hK : K a = 2) : f_Pr_binder i (nI a) σ = some (oI (bd K F a a), σ) := by
  have key : ∀ (m q : Nat), m ≤ q → q ≤ a → (q = a ∨ a < eN K q) → (∀ k, m ≤ k → k < q → ¬ a < eN K k) → loopF (fun (z : (Int32 × Int32 × Mem)) => f_Pr_binder_L11 i (nI a) z.1 z.2.1 z.2.2) (m + 1) (nI (dp K q), nI m + (-1), σ) = some (oI (bd K F a m), σ) := by
    intro m
    induction m with
    | zero =>
      intro q _ _ _ _
      refine lp_exit ?_
      show f_Pr_binder_L11 i (nI a) (nI (dp K q)) (nI 0 + (-1)) σ = _
      unfold f_Pr_binder_L11
      rw [if_pos (by decide)]
      rfl
    | succ m ih =>
      intro q hmq hqa hqe hno
      rw [pk_m1]
      have hst : ∀ r, f_Pr_binder_J59 i (nI a) r (nI m) σ = some (.inl (r, nI m + (-1), σ)) := fun r => rfl
      have hfa : σ.1 (cPf i) a = F a := (hR a ha).2.2.1 (Or.inr (Or.inl hK))
      by_cases hanc : a < eN K m
      · have hlt : dp K m < dp K q := by
          rcases hqe with rfl | h
          · exact dp_in hw (by omega) (by omega) hanc
          · exact dp_in hw (by omega) (by omega) (by omega)
        have hbody : f_Pr_binder_L11 i (nI a) (nI (dp K q)) (nI m) σ = some (if K m = 5 ∧ F m = F a then .inr (nI m, σ) else .inl (nI (dp K m), nI m + (-1), σ)) := by
          unfold f_Pr_binder_L11
          rw [if_neg (nI_pos (by omega)), gd_t (inb_nI (by omega) (by omega)), nI_clamp (by omega), (hR m (by omega)).2.1, if_neg (fun h => by have := (nIle (sz40 hn (by omega)) (sz40 hn (by omega))).mp h; omega), gd_t (inb_nI (by omega) (by omega))]
          simp only [lt_]
          rw [gd_t (inb_nI (by omega) (by omega)), (hR m (by omega)).1]
          by_cases h5 : K m = 5
          · rw [if_pos h5, gd_t (inb_nI (by omega) (by omega)), gd_t (inb_nI (by omega) (by omega)), nI_clamp (by omega), hfa, (hR m (by omega)).2.2.1 (Or.inr (Or.inr h5))]
            by_cases hf : F m = F a
            · rw [if_pos hf, if_pos ⟨h5, hf⟩]
              rfl
            · rw [if_neg hf, if_neg (fun q => hf q.2)]
              exact hst _
          · rw [if_neg h5, if_neg (fun q => h5 q.1)]
            exact hst _
        unfold bd
        by_cases h5 : K m = 5 ∧ F m = F a
        · rw [if_pos ⟨h5.1, h5.2, hanc⟩]
          refine lp_exit ?_
          show f_Pr_binder_L11 i (nI a) (nI (dp K q)) (nI m) σ = _
          rw [hbody, if_pos h5]
          rfl
        · rw [if_neg (fun z => h5 ⟨z.1, z.2.1⟩)]
          refine lp_step (b := (nI (dp K m), nI m + (-1), σ)) ?_ (ih m (Nat.le_refl _) (by omega) (Or.inr hanc) (fun k h1 h2 => by omega))
          show f_Pr_binder_L11 i (nI a) (nI (dp K q)) (nI m) σ = _
          rw [hbody, if_neg h5]
      · have hge : dp K q ≤ dp K m := by
          obtain ⟨p, hp, p1, p2, p3, p4⟩ := up_ex hw (j := q) (by omega) (by omega)
          have hpa : a < eN K p := by
            rcases hqe with rfl | h
            · exact p2
            · have := wf_in hw (i := p) (j := q) (by omega) (by omega) p2
              omega
          have hpm : p < m := by
            rcases Nat.lt_or_ge p m with h | h
            · exact h
            · rcases Nat.eq_or_lt_of_le h with h' | h'
              · exact absurd (h' ▸ hpa) hanc
              · exact absurd hpa (hno p (by omega) p1)
          have := dp_in hw (i := p) (j := m) (by omega) hpm (by omega)
          omega
        unfold bd
        rw [if_neg (fun z => hanc z.2.2)]
        refine lp_step (b := (nI (dp K q), nI m + (-1), σ)) ?_ (ih q (by omega) hqa hqe (fun k h1 h2 => by
          rcases Nat.eq_or_lt_of_le h1 with rfl | h3
          · exact hanc
          · exact hno k (by omega) h2))
        show f_Pr_binder_L11 i (nI a) (nI (dp K q)) (nI m) σ = _
        unfold f_Pr_binder_L11
        rw [if_neg (nI_pos (by omega)), gd_t (inb_nI (by omega) (by omega)), nI_clamp (by omega), (hR m (by omega)).2.1, if_pos ((nIle (sz40 hn (by omega)) (sz40 hn (by omega))).mpr hge)]
        exact hst _
  unfold f_Pr_binder
  rw [gd_t (inb_nI (by omega) (by omega)), nI_clamp (by omega), (hR a ha).2.1]
  unfold lt_
  rw [i32_sub1]
  exact lp_FU (key a a (Nat.le_refl _) (Nat.le_refl _) (Or.inl rfl) (fun k h1 h2 => by omega)) (by omega)
end CLS
