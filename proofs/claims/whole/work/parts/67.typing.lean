/-! TYPING: what each term gets, by what stands around it and in it -/
def hasF (m : Int32) (g : Int64) : Int64 := if m = 0 then g else 1
def bT (K F : Nat → Int32) (T : Nat → Int64) (j : Nat) : Int64 := match bd K F j j with
  | none => 1
  | some b => T b
def gF (K F : Nat → Int32) (T : Nat → Int64) (h : Int64) (j : Nat) : Int64 := if K j = 0 then 1 else if K j = 1 then 2 else if K j = 3 then 2 else if K j = 2 then bT K F T j else if K j = 4 then (if isF h then gvF h else 1) else if K j = 6 then T j else frF (T j) h
noncomputable def mF (K F : Nat → Int32) (T : Nat → Int64) (h w g : Int64) (j : Nat) : Int32 := if K j = 2 ∧ bd K F j j = none then 1 else if K j = 4 ∧ h = 2 then 2 else if K j = 5 ∧ isF w ∧ cnF (T j) (tkF w) = 0 then 3 else if ¬ w = 0 ∧ cnF g w = 0 then 4 else 0
def wF (K : Nat → Int32) (T : Nat → Int64) (h w : Int64) (j : Nat) (v : Int32) : Int64 := if K j = 3 then 2 else if K j = 6 then T j else if K j = 5 then (if isF w then gvF w else if w = 1 then 1 else 0) else if v = 0 then 0 else if isF h then tkF h else 1
theorem bd_some {K F : Nat → Int32} {a b : Nat} : ∀ {m : Nat}, bd K F a m = some b → b < m ∧ K b = 5 ∧ F b = F a ∧ a < eN K b := by
  intro m
  induction m with
  | zero => intro h; cases h
  | succ m ih =>
    intro h
    unfold bd at h
    by_cases q : K m = 5 ∧ F m = F a ∧ a < eN K m
    · rw [if_pos q] at h
      obtain rfl := Option.some.inj h
      exact ⟨by omega, q⟩
    · rw [if_neg q] at h
      obtain ⟨h1, h2⟩ := ih h
      exact ⟨by omega, h2⟩
theorem has_ok {m : Int32} {g : Int64} (h : okT g) : okT (hasF m g) := by
  unfold hasF
  by_cases q : m = 0
  · rw [if_pos q]; exact h
  · rw [if_neg q]; exact okT_1
def okW (w : Int64) : Prop := w = 0 ∨ okT w
theorem isF_0 : ¬ isF 0 := by decide
theorem okW_F {w : Int64} (h : okW w) (hF : isF w) : okT w := by
  rcases h with rfl | h
  · exact absurd hF isF_0
  · exact h
section GOT
variable {n : Nat} {K F : Nat → Int32} {T : Nat → Int64}
theorem bT_ok {j : Nat} (hj : j < n) (hk : okK n K F T) : okT (bT K F T j) := by
  unfold bT
  cases h : bd K F j j with
  | none => exact okT_1
  | some b =>
    obtain ⟨h1, h2, _⟩ := bd_some h
    exact (hk b (by omega)).2.2.2 (Or.inl h2)
theorem gF_ok {j : Nat} {h : Int64} (hj : j < n) (hk : okK n K F T) (hh : K j = 4 ∨ K j = 5 → okT h) : okT (gF K F T h j) := by
  have hK := (hk j hj).1
  unfold gF
  by_cases q0 : K j = 0
  · rw [if_pos q0]; exact okT_1
  rw [if_neg q0]
  by_cases q1 : K j = 1
  · rw [if_pos q1]; exact okT_2
  rw [if_neg q1]
  by_cases q3 : K j = 3
  · rw [if_pos q3]; exact okT_2
  rw [if_neg q3]
  by_cases q2 : K j = 2
  · rw [if_pos q2]; exact bT_ok hj hk
  rw [if_neg q2]
  by_cases q4 : K j = 4
  · rw [if_pos q4]
    by_cases z : isF h
    · rw [if_pos z]; exact (s_given (hh (Or.inl q4)) z mem0).2.2
    · rw [if_neg z]; exact okT_1
  rw [if_neg q4]
  by_cases q6 : K j = 6
  · rw [if_pos q6]; exact (hk j hj).2.2.2 (Or.inr q6)
  rw [if_neg q6]
  have q5 : K j = 5 := by
    rcases hK with z | z | z | z | z | z | z
    · exact absurd z q0
    · exact absurd z q1
    · exact absurd z q2
    · exact absurd z q3
    · exact absurd z q4
    · exact z
    · exact absurd z q6
  exact (s_from ((hk j hj).2.2.2 (Or.inl q5)) (hh (Or.inr q5)) mem0).2.2
theorem wF_ok {j : Nat} {h w : Int64} {v : Int32} (hj : j < n) (hk : okK n K F T) (hh : K j = 4 → okT h) (hw : okW w) (h4 : ar (K j) ≠ 0) : okW (wF K T h w j v) := by
  unfold wF
  by_cases q3 : K j = 3
  · rw [if_pos q3]; exact Or.inr okT_2
  rw [if_neg q3]
  by_cases q6 : K j = 6
  · rw [if_pos q6]; exact Or.inr ((hk j hj).2.2.2 (Or.inr q6))
  rw [if_neg q6]
  by_cases q5 : K j = 5
  · rw [if_pos q5]
    by_cases z : isF w
    · rw [if_pos z]; exact Or.inr (s_given (okW_F hw z) z mem0).2.2
    · rw [if_neg z]
      by_cases y : w = 1
      · rw [if_pos y]; exact Or.inr okT_1
      · rw [if_neg y]; exact Or.inl rfl
  rw [if_neg q5]
  by_cases y : v = 0
  · rw [if_pos y]; exact Or.inl rfl
  rw [if_neg y]
  have q4 : K j = 4 := by
    unfold ar at h4
    by_cases z : K j = 3 ∨ K j = 4
    · exact z.resolve_left q3
    · rw [if_neg z, if_neg (fun w => w.elim q5 q6)] at h4
      exact absurd rfl h4
  by_cases z : isF h
  · rw [if_pos z]; exact Or.inr (s_taken (hh q4) z mem0).2.2
  · rw [if_neg z]; exact Or.inr okT_1
variable {σ : Mem}
theorem s_Mo_has {j : Nat} (hj : j < 48) : f_Mo_has (nI j) σ = some (hasF (σ.1 26 j) (σ.2 24 j), σ) := by
  unfold f_Mo_has f_Mo_has_J19 hasF
  rw [gd_t (inb_nI hj (by decide)), nI_cl (by omega), gd_t (inb_nI hj (by decide))]
  by_cases q : σ.1 26 j = 0
  · rw [if_pos q, if_pos q]
  · rw [if_neg q, if_neg q]
theorem oI_n {b : Nat} : oI (some b) = nI b := rfl
theorem s_Mo_gotOf (hn : n ≤ 40) (hR : rowM σ n K F T) (hw : wf K n) (hk : okK n K F T) {j : Nat} (hj : j < n) (hh : K j = 4 ∨ K j = 5 → okT (hasF (σ.1 26 (j + 1)) (σ.2 24 (j + 1)))) : f_Mo_gotOf (nI j) σ = some (gF K F T (hasF (σ.1 26 (j + 1)) (σ.2 24 (j + 1))) j, σ) := by
  have eK : σ.1 16 j = K j := (hR j hj).1
  have hK := (hk j hj).1
  unfold f_Mo_gotOf f_Mo_gotOf_J23 f_Mo_gotOf_J52 f_Mo_gotOf_J81 f_Mo_gotOf_J113
  simp only [lt_]
  rw [gd_t (inb_nI (by omega) (by decide)), nI_cl (by omega), eK, gd_t (inb_nI (by omega) (by decide)), gd_t (inb_nI (by omega) (by decide)), nI_1]
  unfold gF
  by_cases q0 : K j = 0
  · rw [if_pos q0, if_pos q0]
  rw [if_neg q0, if_neg q0]
  by_cases q1 : K j = 1
  · rw [if_pos q1, if_pos q1]
  rw [if_neg q1, if_neg q1]
  by_cases q3 : K j = 3
  · rw [if_pos q3, if_pos q3]
  rw [if_neg q3, if_neg q3]
  by_cases q2 : K j = 2
  · rw [if_pos q2, if_pos q2, s_Mo_binder (by omega) hR hw hj q2, bn_q]
    unfold bT
    cases h : bd K F j j with
    | none => exact if_neg oI_no
    | some b =>
      obtain ⟨h1, h2, _⟩ := bd_some h
      rw [if_pos (oI_ge (by omega)), oI_n, gd_t (inb_nI (by omega) (by decide)), nI_cl (by omega), (hR b (by omega)).2.2 (Or.inl h2)]
  rw [if_neg q2, if_neg q2]
  by_cases q4 : K j = 4
  · rw [if_pos q4, if_pos q4, s_Mo_has (by omega), bn_q, s_Mo_isFrom, bn_q]
    by_cases z : isF (hasF (σ.1 26 (j + 1)) (σ.2 24 (j + 1)))
    · rw [if_pos z, if_pos z, if_neg (by decide), (s_given (hh (Or.inl q4)) z σ).2.1, bn_q]
    · rw [if_neg z, if_neg z, if_pos rfl]
  rw [if_neg q4, if_neg q4]
  by_cases q6 : K j = 6
  · rw [if_pos q6, if_pos q6, (hR j hj).2.2 (Or.inr q6)]
  rw [if_neg q6, if_neg q6]
  have q5 : K j = 5 := by
    rcases hK with z | z | z | z | z | z | z
    · exact absurd z q0
    · exact absurd z q1
    · exact absurd z q2
    · exact absurd z q3
    · exact absurd z q4
    · exact z
    · exact absurd z q6
  rw [s_Mo_has (by omega), bn_q, (hR j hj).2.2 (Or.inl q5), (s_from ((hk j hj).2.2.2 (Or.inl q5)) (hh (Or.inr q5)) σ).2.1, bn_q]
theorem lN_2 : (2 : Int64) = lN 2 := rfl
theorem s_Mo_markOf (hn : n ≤ 40) (hR : rowM σ n K F T) (hw : wf K n) (hk : okK n K F T) {j : Nat} (hj : j < n) (hg : okT (σ.2 24 j)) (hW : okW (σ.2 25 j)) : f_Mo_markOf (nI j) σ = some (mF K F T (hasF (σ.1 26 (j + 1)) (σ.2 24 (j + 1))) (σ.2 25 j) (σ.2 24 j) j, σ) := by
  have eK : σ.1 16 j = K j := (hR j hj).1
  obtain ⟨W, hWe⟩ : ∃ W, W = σ.2 25 j := ⟨_, rfl⟩
  have J83 : ∀ v : Int32, f_Mo_markOf_J83 (nI j) v σ = some (if ¬ W = 0 ∧ cnF (σ.2 24 j) W = 0 then 4 else 0, σ) := fun v => by
    unfold f_Mo_markOf_J83 f_Mo_markOf_J116 f_Mo_markOf_J117
    rw [gd_t (inb_nI (by omega) (by decide)), gd_t (inb_nI (by omega) (by decide)), nI_cl (by omega), gd_t (inb_nI (by omega) (by decide)), ← hWe]
    by_cases z : W = 0
    · rw [if_pos (cmp0.mpr z), if_neg (fun q => q.1 z)]
    · rw [if_neg (fun q => z (cmp0.mp q)), (s_cons hg (by rw [hWe]; exact hW.resolve_left (by rw [← hWe]; exact z)) σ).2, bn_q]
      by_cases y : cnF (σ.2 24 j) W = 0
      · rw [if_pos y, if_pos ⟨z, y⟩]
      · rw [if_neg y, if_neg (fun q => y q.2)]
  have J43 : f_Mo_markOf_J43 (nI j) (K j) σ = some (if K j = 5 ∧ isF W ∧ cnF (T j) (tkF W) = 0 then 3 else if ¬ W = 0 ∧ cnF (σ.2 24 j) W = 0 then 4 else 0, σ) := by
    unfold f_Mo_markOf_J43
    rw [J83, gd_t (inb_nI (by omega) (by decide)), nI_cl (by omega), ← hWe]
    by_cases q5 : K j = 5
    · rw [if_pos q5, s_Mo_isFrom, bn_q]
      by_cases z : isF W
      · have hWT : okT W := okW_F (by rw [hWe]; exact hW) z
        rw [if_pos z, if_neg (by decide), gd_t (inb_nI (by omega) (by decide)), gd_t (inb_nI (by omega) (by decide)), ← hWe, (s_taken hWT z σ).2.1, bn_q, (hR j hj).2.2 (Or.inl q5), (s_cons ((hk j hj).2.2.2 (Or.inl q5)) (s_taken hWT z σ).2.2 σ).2, bn_q]
        by_cases y : cnF (T j) (tkF W) = 0
        · rw [if_pos y, if_pos (show K j = 5 ∧ isF W ∧ cnF (T j) (tkF W) = 0 from ⟨q5, z, y⟩)]
        · rw [if_neg y, J83, if_neg (show ¬ (K j = 5 ∧ isF W ∧ cnF (T j) (tkF W) = 0) from fun q => y q.2.2)]
      · rw [if_neg z, if_pos rfl, J83, if_neg (show ¬ (K j = 5 ∧ isF W ∧ cnF (T j) (tkF W) = 0) from fun q => z q.2.1)]
    · rw [if_neg q5, if_neg (show ¬ (K j = 5 ∧ isF W ∧ cnF (T j) (tkF W) = 0) from fun q => q5 q.1)]
  obtain ⟨H, hH⟩ : ∃ H, H = hasF (σ.1 26 (j + 1)) (σ.2 24 (j + 1)) := ⟨_, rfl⟩
  have J22 : f_Mo_markOf_J22 (nI j) (K j) σ = some (if K j = 4 ∧ H = 2 then 2 else if K j = 5 ∧ isF W ∧ cnF (T j) (tkF W) = 0 then 3 else if ¬ W = 0 ∧ cnF (σ.2 24 j) W = 0 then 4 else 0, σ) := by
    unfold f_Mo_markOf_J22
    rw [J43, nI_1]
    by_cases q4 : K j = 4
    · rw [if_pos q4, s_Mo_has (by omega), bn_q, ← hH]
      by_cases y : H = 2
      · rw [if_pos (cmp0.mpr y), if_pos (show K j = 4 ∧ H = 2 from ⟨q4, y⟩)]
      · rw [if_neg (fun q => y (cmp0.mp q)), J43, if_neg (show ¬ (K j = 4 ∧ H = 2) from fun q => y q.2)]
    · rw [if_neg q4, if_neg (show ¬ (K j = 4 ∧ H = 2) from fun q => q4 q.1)]
  unfold f_Mo_markOf mF
  simp only [lt_]
  rw [gd_t (inb_nI (by omega) (by decide)), nI_cl (by omega), eK, J22, ← hWe, ← hH]
  by_cases q2 : K j = 2
  · rw [if_pos q2, s_Mo_binder (by omega) hR hw hj q2, bn_q]
    cases h : bd K F j j with
    | none => rw [if_neg oI_no, if_pos (show K j = 2 ∧ (none : Option Nat) = none from ⟨q2, rfl⟩)]
    | some b =>
      obtain ⟨h1, h2, _⟩ := bd_some h
      rw [if_pos (oI_ge (by omega)), J22, if_neg (show ¬ (K j = 2 ∧ some b = none) from fun q => (by cases q.2))]
  · rw [if_neg q2, if_neg (show ¬ (K j = 2 ∧ bd K F j j = none) from fun q => q2 q.1)]
theorem s_Mo_wantedOf (hn : n ≤ 40) (hR : rowM σ n K F T) (hk : okK n K F T) {j : Nat} (hj : j < n) (h4 : ar (K j) ≠ 0) (hh : K j = 4 → okT (hasF (σ.1 26 (j + 1)) (σ.2 24 (j + 1)))) (hW : okW (σ.2 25 j)) (v : Int32) : f_Mo_wantedOf (nI j) v σ = some (wF K T (hasF (σ.1 26 (j + 1)) (σ.2 24 (j + 1))) (σ.2 25 j) j v, σ) := by
  have eK : σ.1 16 j = K j := (hR j hj).1
  unfold f_Mo_wantedOf f_Mo_wantedOf_J74 f_Mo_wantedOf_J107 wF
  simp only [lt_]
  rw [gd_t (inb_nI (by omega) (by decide)), nI_cl (by omega), eK, gd_t (inb_nI (by omega) (by decide)), gd_t (inb_nI (by omega) (by decide)), nI_1]
  by_cases q3 : K j = 3
  · rw [if_pos q3, if_pos q3]
  rw [if_neg q3, if_neg q3]
  by_cases q6 : K j = 6
  · rw [if_pos q6, if_pos q6, (hR j hj).2.2 (Or.inr q6)]
  rw [if_neg q6, if_neg q6]
  by_cases q5 : K j = 5
  · rw [if_pos q5, if_pos q5, s_Mo_isFrom, bn_q]
    by_cases z : isF (σ.2 25 j)
    · rw [if_pos z, if_neg (by decide), gd_t (inb_nI (by omega) (by decide)), (s_given (okW_F hW z) z σ).2.1, bn_q, if_pos z]
    · rw [if_neg z, if_pos rfl, gd_t (inb_nI (by omega) (by decide)), if_neg z]
      by_cases y : σ.2 25 j = 1
      · rw [if_pos (cmp0.mpr y), if_pos y]
      · rw [if_neg (fun q => y (cmp0.mp q)), if_neg y]
  rw [if_neg q5, if_neg q5]
  by_cases y : v = 0
  · rw [if_pos y, if_pos y]
  rw [if_neg y, if_neg y]
  have q4 : K j = 4 := by
    unfold ar at h4
    by_cases z : K j = 3 ∨ K j = 4
    · exact z.resolve_left q3
    · rw [if_neg z, if_neg (fun w => w.elim q5 q6)] at h4
      exact absurd rfl h4
  rw [s_Mo_has (by omega), bn_q, s_Mo_isFrom, bn_q]
  by_cases z : isF (hasF (σ.1 26 (j + 1)) (σ.2 24 (j + 1)))
  · rw [if_pos z, if_pos z, if_neg (by decide), (s_taken (hh q4) z σ).2.1, bn_q]
  · rw [if_neg z, if_neg z, if_pos rfl]
end GOT
