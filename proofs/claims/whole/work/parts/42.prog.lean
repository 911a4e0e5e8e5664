/-! PROGRAMS: n, cursor, kinds, figures, types; how the class holds one, how the reference does -/
abbrev Pg : Type := Nat × Nat × (Nat → Int32) × (Nat → Int32) × (Nat → Int64)
def usF (k : Int32) : Prop := k = 1 ∨ k = 2 ∨ k = 5
def usT (k : Int32) : Prop := k = 5 ∨ k = 6
def isK (k : Int32) : Prop := k = 0 ∨ k = 1 ∨ k = 2 ∨ k = 3 ∨ k = 4 ∨ k = 5 ∨ k = 6
/-- the rows of a program: the class's, with levels -/
def rowC (σ : Mem) (p n : Nat) (K F : Nat → Int32) (T : Nat → Int64) : Prop := ∀ j, j < n → σ.1 (cPk p) j = K j ∧ σ.1 (cPl p) j = nI (dp K j) ∧ (usF (K j) → σ.1 (cPf p) j = F j) ∧ (usT (K j) → σ.2 (cPt p) j = T j)
def atC (σ : Mem) (p : Nat) (A : Pg) : Prop := σ.1 (cP p) 4 = nI A.1 ∧ σ.1 (cP p) 5 = nI A.2.1 ∧ rowC σ p A.1 A.2.2.1 A.2.2.2.1 A.2.2.2.2
theorem sz40 {K : Nat → Int32} {j n : Nat} (hn : n ≤ 40) (hj : j < n) : dp K j < 2 ^ 31 := by
  unfold dp
  have h1 := List.countP_le_length (p := fun k => decide (j < eN K k)) (l := List.range j)
  rw [List.length_range] at h1
  omega
theorem nIle {a b : Nat} (ha : a < 2 ^ 31) (hb : b < 2 ^ 31) : nI a ≤ nI b ↔ a ≤ b := nI_leI ha hb
theorem nIlt {a b : Nat} (ha : a < 2 ^ 31) (hb : b < 2 ^ 31) : nI a < nI b ↔ a < b := nI_ltI ha hb
section CLS
variable {σ : Mem} {i n : Nat} {K F : Nat → Int32} {T : Nat → Int64}
/-- the class's end: by levels -/
theorem s_Pr_end (hn : n ≤ 40) (hz : σ.1 (cP i) 4 = nI n) (hR : rowC σ i n K F T) (hw : wf K n) {a : Nat} (ha : a < n) : f_Pr_end i (nI a) σ = some (nI (eN K a), σ) := by
  obtain ⟨_, hl, he⟩ := wf_at hw ha
  have key : ∀ (d m : Nat), a < m → m + d = eN K a → loopF (fun (q : (Int32 × Mem)) => f_Pr_end_L4 i (nI a) q.1 q.2) (d + 1) (nI m, σ) = some (nI (eN K a), σ) := by
    intro d
    induction d with
    | zero =>
      intro m hm hd
      obtain rfl : m = eN K a := by omega
      refine lp_exit ?_
      show f_Pr_end_L4 i (nI a) (nI (eN K a)) σ = _
      unfold f_Pr_end_L4 f_Pr_end_J33
      rw [hz]
      by_cases hq : n ≤ eN K a
      · rw [if_pos ((nIle (by omega) (by omega)).mpr hq)]
        rfl
      · rw [if_neg (fun h => hq ((nIle (by omega) (by omega)).mp h)), gd_t (inb_nI (by omega) (by omega)), gd_t (inb_nI (by omega) (by omega)), nI_clamp (by omega), nI_clamp (by omega), (hR _ (by omega)).2.1, (hR a ha).2.1]
        rw [if_pos ((nIle (sz40 hn (by omega)) (sz40 hn ha)).mpr (dp_end hw ha (by omega)))]
        rfl
    | succ d ih =>
      intro m hm hd
      refine lp_step (b := (nI (m + 1), σ)) ?_ (ih (m + 1) (by omega) (by omega))
      show f_Pr_end_L4 i (nI a) (nI m) σ = _
      unfold f_Pr_end_L4
      rw [hz, if_neg (fun h => by have := (nIle (by omega) (by omega)).mp h; omega), gd_t (inb_nI (by omega) (by omega)), gd_t (inb_nI (by omega) (by omega)), nI_clamp (by omega), nI_clamp (by omega), (hR m (by omega)).2.1, (hR a ha).2.1]
      rw [if_neg (fun h => by have := (nIle (sz40 hn (by omega)) (sz40 hn ha)).mp h; have := dp_in hw ha hm (by omega); omega)]
      show some (Sum.inl (nI m + 1, σ)) = _
      rw [nI_1]
  unfold f_Pr_end lt_
  rw [nI_1]
  exact lp_FU (key (eN K a - (a + 1)) (a + 1) (by omega) (by omega)) (by omega)
/-- the class's parent -/
theorem s_Pr_parent (hn : n ≤ 40) (hR : rowC σ i n K F T) (hw : wf K n) {a : Nat} (h0 : 0 < a) (ha : a < n) {p : Nat} (hp : up1 K a a = some p) : f_Pr_parent i (nI a) σ = some (nI p, σ) := by
  obtain ⟨p', e1, h1, h2, h3, h4⟩ := up_ex hw h0 ha
  obtain rfl : p' = p := Option.some.inj (e1.symm.trans hp)
  have key : ∀ (d m : Nat), m < a → m = p' + d → loopF (fun (q : (Int32 × Mem)) => f_Pr_parent_L4 i (nI a) q.1 q.2) (d + 1) (nI m, σ) = some (nI p', σ) := by
    intro d
    induction d with
    | zero =>
      intro m hm hd
      obtain rfl : m = p' := by omega
      refine lp_exit ?_
      show f_Pr_parent_L4 i (nI a) (nI m) σ = _
      unfold f_Pr_parent_L4
      rw [if_neg (nI_pos (by omega)), gd_t (inb_nI (by omega) (by omega)), gd_t (inb_nI (by omega) (by omega)), nI_clamp (by omega), nI_clamp (by omega), (hR m (by omega)).2.1, (hR a ha).2.1]
      rw [if_neg (fun h => by have := (nIle (sz40 hn ha) (sz40 hn (by omega))).mp h; omega)]
      rfl
    | succ d ih =>
      intro m hm hd
      refine lp_step (b := (nI (m - 1), σ)) ?_ (ih (m - 1) (by omega) (by omega))
      show f_Pr_parent_L4 i (nI a) (nI m) σ = _
      unfold f_Pr_parent_L4
      have hge : dp K a ≤ dp K m := by
        have := dp_in hw (i := p') (j := m) (by omega) (by omega) (by omega)
        omega
      rw [if_neg (nI_pos (by omega)), gd_t (inb_nI (by omega) (by omega)), gd_t (inb_nI (by omega) (by omega)), nI_clamp (by omega), nI_clamp (by omega), (hR m (by omega)).2.1, (hR a ha).2.1]
      rw [if_pos ((nIle (sz40 hn ha) (sz40 hn (by omega))).mpr hge)]
      show some (Sum.inl (nI m + (-1), σ)) = _
      rw [sb_m1 (by omega)]
  unfold f_Pr_parent lt_
  have e2 : nI a - 1 = nI (a - 1) := by
    obtain ⟨b, rfl⟩ : ∃ b, a = b + 1 := ⟨a - 1, by omega⟩
    exact nI_pred b
  rw [e2]
  exact lp_FU (key (a - 1 - p') (a - 1) (by omega) (by omega)) (by omega)
theorem s_Pr_parent0 (i : Nat) (σ : Mem) : f_Pr_parent i (nI 0) σ = some (-1, σ) := by
  unfold f_Pr_parent lt_
  refine lp_FU (n := 1) (lp_exit ?_) (by decide)
  show f_Pr_parent_L4 i (nI 0) (nI 0 - 1) σ = _
  unfold f_Pr_parent_L4
  rw [if_pos (by decide)]
  rfl
end CLS
