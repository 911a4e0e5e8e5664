/-! the reference's own scans -/
def rowM (σ : Mem) (n : Nat) (K F : Nat → Int32) (T : Nat → Int64) : Prop := ∀ j, j < n → σ.1 16 j = K j ∧ (usF (K j) → σ.1 17 j = F j) ∧ (usT (K j) → σ.2 18 j = T j)
def atM (σ : Mem) (A : Pg) : Prop := σ.1 15 0 = nI A.1 ∧ σ.1 15 1 = nI A.2.1 ∧ rowM σ A.1 A.2.2.1 A.2.2.2.1 A.2.2.2.2
theorem s_Mo_parts (k : Int32) (σ : Mem) : f_Mo_parts k σ = some (nI (ar k), σ) := by
  unfold f_Mo_parts f_Mo_parts_J10 f_Mo_parts_J25 f_Mo_parts_J30 ar
  by_cases h3 : k = 3
  · rw [if_pos h3, if_pos (Or.inl h3)]
    rfl
  · rw [if_neg h3]
    by_cases h4 : k = 4
    · rw [if_pos h4, if_pos (Or.inr h4)]
      rfl
    · have h34 : ¬ (k = 3 ∨ k = 4) := fun h => h.elim h3 h4
      rw [if_neg h4, if_neg h34]
      by_cases h5 : k = 5
      · rw [if_pos h5, if_pos (Or.inl h5)]
        rfl
      · rw [if_neg h5]
        by_cases h6 : k = 6
        · rw [if_pos h6, if_pos (Or.inr h6)]
          rfl
        · have h56 : ¬ (k = 5 ∨ k = 6) := fun h => h.elim h5 h6
          rw [if_neg h6, if_neg h56]
          rfl
theorem i32_1m1 (x : Int32) : 1 + (x + (-1)) = x := by
  have h : (1 : Int32) + (-1) = 0 := by decide
  rw [Int32.add_comm x (-1), ← Int32.add_assoc, h, Int32.zero_add]
section MOD
variable {σ : Mem} {n : Nat} {K F : Nat → Int32} {T : Nat → Int64}
theorem end_step (hn : n ≤ 48) (hR : ∀ j, j < n → σ.1 16 j = K j) {v : Int32} {r a : Nat} (hr : r < 1000) (ha : a < n) : f_Mo_end_L4 v (nI (r + 1)) (nI a) σ = some (.inl (nI (r + ar (K a)), nI (a + 1), σ)) := by
  have h2 := ar_le (K a)
  unfold f_Mo_end_L4
  rw [if_neg (fun h => by have := (nIle (b := 0) (by omega) (by decide)).mp h; omega), gd_t (inb_nI (by omega) (by omega)), nI_clamp (by omega), hR a ha, s_Mo_parts]
  simp only [bn, lt_]
  have e1 : nI (r + 1) + (nI (ar (K a)) - 1) = nI (r + ar (K a)) := by
    rw [← nI_1 r, ← nI_add r, Int32.sub_eq_add_neg, Int32.add_assoc, i32_1m1]
  rw [e1, nI_1]
theorem end_run (hn : n ≤ 48) (hR : ∀ j, j < n → σ.1 16 j = K j) {v : Int32} {z : Int32 × Mem} : ∀ (f a e r k : Nat), tm K f a = some e → e ≤ n → r + f < 1000 → loopF (fun (q : (Int32 × Int32 × Mem)) => f_Mo_end_L4 v q.1 q.2.1 q.2.2) k (nI r, nI e, σ) = some z → loopF (fun (q : (Int32 × Int32 × Mem)) => f_Mo_end_L4 v q.1 q.2.1 q.2.2) (k + (e - a)) (nI (r + 1), nI a, σ) = some z := by
  intro f
  induction f with
  | zero => intro a e r k h; cases h
  | succ f ih =>
    intro a e r k h hen hrf hz
    have hlt := tm_lt h
    obtain ⟨f', hf, c⟩ := tm_cases h
    obtain rfl : f' = f := by omega
    rcases c with ⟨a0, rfl⟩ | ⟨a0, h1⟩ | ⟨a0, d, h1, h2⟩
    · have e1 : k + (a + 1 - a) = k + 1 := by omega
      rw [e1]
      refine lp_step (end_step hn hR (by omega) (by omega)) ?_
      rw [a0]
      exact hz
    · have l1 := tm_lt h1
      have e1 : k + (e - a) = (k + (e - (a + 1))) + 1 := by omega
      rw [e1]
      refine lp_step (end_step hn hR (by omega) (by omega)) ?_
      rw [a0]
      exact ih (a + 1) e r k h1 hen (by omega) hz
    · have l1 := tm_lt h1
      have l2 := tm_lt h2
      have e1 : k + (e - a) = ((k + (e - d)) + (d - (a + 1))) + 1 := by omega
      rw [e1]
      refine lp_step (end_step hn hR (by omega) (by omega)) ?_
      rw [a0]
      exact ih (a + 1) d (r + 1) _ h1 (by omega) (by omega) (ih d e r k h2 hen (by omega) hz)
theorem s_Mo_end (hn : n ≤ 48) (hR : ∀ j, j < n → σ.1 16 j = K j) (hw : wf K n) {a : Nat} (ha : a < n) : f_Mo_end (nI a) σ = some (nI (eN K a), σ) := by
  obtain ⟨h1, h2, h3⟩ := wf_at hw ha
  unfold f_Mo_end
  simp only [lt_]
  refine lp_FU (n := 1 + (eN K a - a)) (end_run hn hR 64 a (eN K a) 0 1 h1 h3 (by omega) (lp_exit ?_)) (by omega)
  show f_Mo_end_L4 (nI a) (nI 0) (nI (eN K a)) σ = _
  unfold f_Mo_end_L4
  rw [if_pos (by decide)]
  rfl
theorem s_Mo_part (hn : n ≤ 48) (hR : ∀ j, j < n → σ.1 16 j = K j) (hw : wf K n) {a : Nat} (v : Int32) (ha : a + 1 < n) : f_Mo_part (nI a) v σ = some (if v = 0 then nI (a + 1) else nI (eN K (a + 1)), σ) := by
  unfold f_Mo_part f_Mo_part_J17
  by_cases hv : v = 0
  · rw [if_pos hv, if_pos hv, nI_1]
  · rw [if_neg hv, if_neg hv, nI_1, s_Mo_end hn hR hw ha]
    rfl
theorem s_Mo_above (hn : n ≤ 48) (hR : ∀ j, j < n → σ.1 16 j = K j) (hw : wf K n) {a : Nat} (ha : a < n) : f_Mo_above (nI a) σ = some (oI (up1 K a a), σ) := by
  have key : ∀ (m : Nat), m ≤ a → loopF (fun (q : (Int32 × Mem)) => f_Mo_above_L4 (nI a) q.1 q.2) (m + 1) (nI m + (-1), σ) = some (oI (up1 K a m), σ) := by
    intro m
    induction m with
    | zero =>
      intro _
      refine lp_exit ?_
      show f_Mo_above_L4 (nI a) (nI 0 + (-1)) σ = _
      unfold f_Mo_above_L4 f_Mo_above_J23
      rw [if_pos (by decide)]
      rfl
    | succ m ih =>
      intro hm
      rw [pk_m1]
      unfold up1
      obtain ⟨_, g1, g2⟩ := wf_at hw (i := m) (by omega)
      have hb : f_Mo_above_L4 (nI a) (nI m) σ = if a < eN K m then some (.inr (nI m, σ)) else some (.inl (nI m + (-1), σ)) := by
        unfold f_Mo_above_L4 f_Mo_above_J23
        rw [if_neg (nI_pos (by omega)), s_Mo_end hn hR hw (by omega)]
        simp only [bn, lt_]
        by_cases hq : a < eN K m
        · rw [if_pos ((nIlt (by omega) (by omega)).mpr hq), if_pos hq]
          rfl
        · rw [if_neg (fun h => hq ((nIlt (by omega) (by omega)).mp h)), if_neg hq]
      by_cases hq : a < eN K m
      · rw [if_pos hq] at hb ⊢
        exact lp_exit hb
      · rw [if_neg hq] at hb ⊢
        exact lp_step hb (ih (by omega))
  unfold f_Mo_above
  simp only [lt_]
  rw [i32_sub1]
  exact lp_FU (key a (Nat.le_refl _)) (by omega)
theorem s_Mo_depth (hn : n ≤ 48) (hR : ∀ j, j < n → σ.1 16 j = K j) (hw : wf K n) {a : Nat} (ha : a < n) : f_Mo_depth (nI a) σ = some (nI (dp K a + 1), σ) := by
  have key : ∀ (d m r : Nat), m + d = a → r = (List.range m).countP (fun k => decide (a < eN K k)) → loopF (fun (q : (Int32 × Int32 × Mem)) => f_Mo_depth_L4 (nI a) q.1 q.2.1 q.2.2) (d + 1) (nI (r + 1), nI m, σ) = some (nI (dp K a + 1), σ) := by
    intro d
    induction d with
    | zero =>
      intro m r hm hr
      obtain rfl : m = a := by omega
      refine lp_exit ?_
      show f_Mo_depth_L4 (nI m) (nI (r + 1)) (nI m) σ = _
      unfold f_Mo_depth_L4
      rw [if_pos ((nIle (by omega) (by omega)).mpr (Nat.le_refl _)), hr]
      rfl
    | succ d ih =>
      intro m r hm hr
      obtain ⟨_, g1, g2⟩ := wf_at hw (i := m) (by omega)
      have hb : f_Mo_depth_L4 (nI a) (nI (r + 1)) (nI m) σ = some (.inl (nI ((if a < eN K m then r + 1 else r) + 1), nI (m + 1), σ)) := by
        unfold f_Mo_depth_L4 f_Mo_depth_J24
        rw [if_neg (fun h => by have := (nIle (by omega) (by omega)).mp h; omega), s_Mo_end hn hR hw (by omega)]
        simp only [bn, lt_]
        by_cases hq : a < eN K m
        · rw [if_neg (fun h => by have := (nIle (by omega) (by omega)).mp h; omega), if_pos hq, nI_1, nI_1]
        · rw [if_pos ((nIle (by omega) (by omega)).mpr (by omega)), if_neg hq, nI_1, Int32.add_zero]
      refine lp_step hb (ih (m + 1) _ (by omega) ?_)
      rw [List.range_succ, List.countP_append, ← hr]
      by_cases hq : a < eN K m
      · simp [hq]
      · simp [hq]
  unfold f_Mo_depth
  simp only [lt_]
  exact lp_FU (key a 0 0 (by omega) rfl) (by omega)
theorem s_Mo_binder (hn : n ≤ 48) (hR : rowM σ n K F T) (hw : wf K n) {a : Nat} (ha : a < n) (hK : K a = 2) : f_Mo_binder (nI a) σ = some (oI (bd K F a a), σ) := by
  have hR1 : ∀ j, j < n → σ.1 16 j = K j := fun j hj => (hR j hj).1
  have hfa : σ.1 17 a = F a := (hR a ha).2.1 (Or.inr (Or.inl hK))
  have key : ∀ (m : Nat), m ≤ a → loopF (fun (q : (Int32 × Mem)) => f_Mo_binder_L4 (nI a) q.1 q.2) (m + 1) (nI m + (-1), σ) = some (oI (bd K F a m), σ) := by
    intro m
    induction m with
    | zero =>
      intro _
      refine lp_exit ?_
      show f_Mo_binder_L4 (nI a) (nI 0 + (-1)) σ = _
      unfold f_Mo_binder_L4 f_Mo_binder_J48
      rw [if_pos (by decide)]
      rfl
    | succ m ih =>
      intro hm
      rw [pk_m1]
      unfold bd
      obtain ⟨_, g1, g2⟩ := wf_at hw (i := m) (by omega)
      have hb : f_Mo_binder_L4 (nI a) (nI m) σ = if K m = 5 ∧ F m = F a ∧ a < eN K m then some (.inr (nI m, σ)) else some (.inl (nI m + (-1), σ)) := by
        unfold f_Mo_binder_L4 f_Mo_binder_J48 f_Mo_binder_J42
        simp only [lt_]
        rw [if_neg (nI_pos (by omega)), gd_t (inb_nI (by omega) (by omega)), nI_clamp (by omega), hR1 m (by omega)]
        by_cases h5 : K m = 5
        · rw [if_pos h5, gd_t (inb_nI (by omega) (by omega)), gd_t (inb_nI (by omega) (by omega)), nI_clamp (by omega), hfa, (hR m (by omega)).2.1 (Or.inr (Or.inr h5))]
          by_cases hf : F m = F a
          · rw [if_pos hf, s_Mo_end hn hR1 hw (by omega)]
            simp only [bn]
            by_cases hq : a < eN K m
            · rw [if_pos ((nIlt (by omega) (by omega)).mpr hq), if_pos ⟨h5, hf, hq⟩]
              rfl
            · rw [if_neg (fun h => hq ((nIlt (by omega) (by omega)).mp h)), if_neg (fun z => hq z.2.2)]
          · rw [if_neg hf, if_neg (fun z => hf z.2.1)]
        · rw [if_neg h5, if_neg (fun z => h5 z.1)]
      by_cases hq : K m = 5 ∧ F m = F a ∧ a < eN K m
      · rw [if_pos hq] at hb ⊢
        exact lp_exit hb
      · rw [if_neg hq] at hb ⊢
        exact lp_step hb (ih (by omega))
  unfold f_Mo_binder
  simp only [lt_]
  rw [i32_sub1]
  exact lp_FU (key a (Nat.le_refl _)) (by omega)
end MOD
