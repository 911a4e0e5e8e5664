/-! the typing of a program as equations; right values spread from the program's own place -/
abbrev St : Type := (Nat → Int64) × (Nat → Int64) × (Nat → Int32)
def H_ (s : St) (j : Nat) : Int64 := hasF (s.2.2 (j + 1)) (s.1 (j + 1))
def wE (K : Nat → Int32) (T : Nat → Int64) (s : St) (p : Nat) : Int64 := match up1 K p p with
  | none => 0
  | some q => wF K T (H_ s q) (s.2.1 q) q (if q + 1 = p then 0 else 1)
def rE (K F : Nat → Int32) (T : Nat → Int64) (s s' : St) (p : Nat) : Prop := s'.2.1 p = wE K T s p ∧ s'.1 p = gF K F T (H_ s' p) p ∧ s'.2.2 p = mF K F T (H_ s' p) (s'.2.1 p) (s'.1 p) p
def rEs (n : Nat) (K F : Nat → Int32) (T : Nat → Int64) (s s' : St) : Prop := ∀ p, p < n → rE K F T s s' p
def vE (n : Nat) (s : St) : Prop := ∀ p, p < n → okT (s.1 p) ∧ okW (s.2.1 p)
def sm (s R : St) (j : Nat) : Prop := s.1 j = R.1 j ∧ s.2.1 j = R.2.1 j ∧ s.2.2 j = R.2.2 j
theorem up1_is {K : Nat → Int32} {j p : Nat} : ∀ {m : Nat}, p < m → j < eN K p → (∀ k, p < k → k < m → eN K k ≤ j) → up1 K j m = some p := by
  intro m
  induction m with
  | zero => intro h; omega
  | succ m ih =>
    intro h1 h2 h3
    unfold up1
    by_cases q : m = p
    · rw [q, if_pos h2]
    · have := h3 m (by omega) (by omega)
      rw [if_neg (by omega)]
      exact ih (by omega) h2 (fun k a b => h3 k a (by omega))
theorem up_first {K : Nat → Int32} {n i : Nat} (hw : wf K n) (hi : i < n) (ha : ar (K i) ≠ 0) : up1 K (i + 1) (i + 1) = some i ∧ i + 1 < eN K i := by
  have h3 := ar_le (K i)
  have : i + 1 < eN K i := by
    rcases (by omega : ar (K i) = 1 ∨ ar (K i) = 2) with z | z
    · exact (wf_ar1 hw hi z).2.1
    · have := wf_ar2 hw hi z; omega
  exact ⟨up1_is (by omega) this (fun k a b => by omega), this⟩
theorem up_second {K : Nat → Int32} {n i : Nat} (hw : wf K n) (hi : i < n) (ha : ar (K i) = 2) : up1 K (eN K (i + 1)) (eN K (i + 1)) = some i := by
  obtain ⟨e1, e2, e3, _⟩ := wf_ar2 hw hi ha
  have := (wf_at hw hi).2.2
  exact up1_is (by omega) e2 (fun k a b => wf_in hw (i := i + 1) (by omega) (by omega) b)
theorem leaf_k {k : Int32} (h : isK k) (ha : ar k = 0) : k = 0 ∨ k = 1 ∨ k = 2 := by
  rcases h with rfl | rfl | rfl | rfl | rfl | rfl | rfl
  · exact Or.inl rfl
  · exact Or.inr (Or.inl rfl)
  · exact Or.inr (Or.inr rfl)
  all_goals exact absurd ha (by decide)
theorem gF_leaf {K F : Nat → Int32} {T : Nat → Int64} {j : Nat} (hk : isK (K j)) (ha : ar (K j) = 0) (h h' : Int64) : gF K F T h j = gF K F T h' j := by
  unfold gF
  rcases leaf_k hk ha with z | z | z <;> (rw [z]; rfl)
theorem mF_leaf {K F : Nat → Int32} {T : Nat → Int64} {j : Nat} (hk : isK (K j)) (ha : ar (K j) = 0) (h h' w g : Int64) : mF K F T h w g j = mF K F T h' w g j := by
  unfold mF
  have n4 : ¬ K j = 4 := fun z => by rw [z] at ha; exact absurd ha (by decide)
  rw [if_neg (show ¬ (K j = 4 ∧ h = 2) from fun q => n4 q.1), if_neg (show ¬ (K j = 4 ∧ h' = 2) from fun q => n4 q.1)]
section SPREAD
variable {n : Nat} {K F : Nat → Int32} {T : Nat → Int64}
/-- what a place gets, if its first part is right and it is wanted as it should be -/
theorem at_right {s0 s R : St} (hk : okK n K F T) (hR : rEs n K F T R R) {i : Nat} (hi : i < n) (h : rE K F T s0 s i) (hw : s.2.1 i = R.2.1 i) (hc : ar (K i) ≠ 0 → sm s R (i + 1)) : sm s R i := by
  obtain ⟨h1, h2, h3⟩ := h
  obtain ⟨r1, r2, r3⟩ := hR i hi
  have g : s.1 i = R.1 i := by
    rw [h2, r2]
    by_cases q : ar (K i) = 0
    · exact gF_leaf (hk i hi).1 q _ _
    · obtain ⟨c1, c2, c3⟩ := hc q
      unfold H_
      rw [c1, c3]
  refine ⟨g, hw, ?_⟩
  rw [h3, r3, g, hw]
  by_cases q : ar (K i) = 0
  · exact mF_leaf (hk i hi).1 q _ _ _ _
  · obtain ⟨c1, c2, c3⟩ := hc q
    unfold H_
    rw [c1, c3]
theorem wE_first {s R : St} (hw : wf K n) {i : Nat} (hi : i < n) (ha : ar (K i) ≠ 0) (h : s.2.1 i = R.2.1 i) : wE K T s (i + 1) = wE K T R (i + 1) := by
  unfold wE
  rw [(up_first hw hi ha).1]
  show wF K T (H_ s i) (s.2.1 i) i (if i + 1 = i + 1 then 0 else 1) = wF K T (H_ R i) (R.2.1 i) i (if i + 1 = i + 1 then 0 else 1)
  rw [if_pos rfl, h]
  unfold wF
  rw [if_pos (show (0 : Int32) = 0 from rfl), if_pos (show (0 : Int32) = 0 from rfl)]
theorem wE_second {s R : St} (hw : wf K n) {i : Nat} (hi : i < n) (ha : ar (K i) = 2) (h : s.2.1 i = R.2.1 i) (hc : sm s R (i + 1)) : wE K T s (eN K (i + 1)) = wE K T R (eN K (i + 1)) := by
  unfold wE
  rw [up_second hw hi ha]
  obtain ⟨c1, c2, c3⟩ := hc
  show wF K T (H_ s i) (s.2.1 i) i _ = wF K T (H_ R i) (R.2.1 i) i _
  unfold H_
  rw [h, c1, c3]
theorem spread {Q : Nat → St} {R : St} {L : Nat} (hwf : wf K n) (hk : okK n K F T) (hQ : ∀ t, t < L → rEs n K F T (Q t) (Q (t + 1))) (hR : rEs n K F T R R) : ∀ (f i e : Nat), tm K f i = some e → f ≤ 64 → e ≤ n → ∀ t, (∀ t', t ≤ t' → t' ≤ L → (Q t').2.1 i = R.2.1 i) → ∀ t', t + 3 * (e - i) ≤ t' → t' ≤ L → ∀ j, i ≤ j → j < e → sm (Q t') R j := by
  intro f
  induction f with
  | zero => intro i e h; cases h
  | succ f ih =>
    intro i e h hf he t hW t' h1 h2 j hj hj2
    have hlt := tm_lt h
    have hi : i < n := by omega
    obtain ⟨f', hf', hc⟩ := tm_cases h
    obtain rfl : f = f' := by omega
    -- the place itself, once its first part is right
    have self : ∀ t', t + 1 ≤ t' → t' ≤ L → (ar (K i) ≠ 0 → sm (Q t') R (i + 1)) → sm (Q t') R i := fun t' a b c => by
      obtain ⟨s, rfl⟩ : ∃ s, t' = s + 1 := ⟨t' - 1, by omega⟩
      exact at_right hk hR hi (hQ s (by omega) i hi) (hW _ (by omega) b) c
    have first : ar (K i) ≠ 0 → ∀ t', t + 1 ≤ t' → t' ≤ L → (Q t').2.1 (i + 1) = R.2.1 (i + 1) := fun ha t' a b => by
      obtain ⟨s, rfl⟩ : ∃ s, t' = s + 1 := ⟨t' - 1, by omega⟩
      have hn1 : i + 1 < n := by have := (up_first hwf hi ha).2; have := (wf_at hwf hi).2.2; omega
      rw [(hQ s (by omega) (i + 1) hn1).1, (hR (i + 1) hn1).1]
      exact wE_first hwf hi ha (hW s (by omega) (by omega))
    rcases hc with ⟨h0, rfl⟩ | ⟨h0, hc⟩ | ⟨h0, d, hc1, hc2⟩
    · obtain rfl : j = i := by omega
      exact self t' (by omega) h2 (fun z => absurd h0 z)
    · have l1 := tm_lt hc
      have A := ih (i + 1) e hc (by omega) he (t + 1) (first (by omega))
      by_cases q : j = i
      · rw [q]
        exact self t' (by omega) h2 (fun _ => A t' (by omega) h2 (i + 1) (Nat.le_refl _) l1)
      · exact A t' (by omega) h2 j (by omega) hj2
    · have l1 := tm_lt hc1
      have l2 := tm_lt hc2
      have hd : eN K (i + 1) = d := eN_of (by omega) hc1
      have A := ih (i + 1) d hc1 (by omega) (by omega) (t + 1) (first (by omega))
      have second : ∀ t', t + 2 + 3 * (d - (i + 1)) ≤ t' → t' ≤ L → (Q t').2.1 d = R.2.1 d := fun t' a b => by
        obtain ⟨s, rfl⟩ : ∃ s, t' = s + 1 := ⟨t' - 1, by omega⟩
        rw [(hQ s (by omega) d (by omega)).1, (hR d (by omega)).1, ← hd]
        exact wE_second hwf hi h0 (hW s (by omega) (by omega)) (A s (by omega) (by omega) (i + 1) (Nat.le_refl _) l1)
      have B := ih d e hc2 (by omega) he (t + 2 + 3 * (d - (i + 1))) second
      by_cases q : j = i
      · rw [q]
        exact self t' (by omega) h2 (fun _ => A t' (by omega) h2 (i + 1) (Nat.le_refl _) l1)
      · by_cases q2 : j < d
        · exact A t' (by omega) h2 j (by omega) q2
        · exact B t' (by omega) h2 j (by omega) hj2
theorem spread_all {Q : Nat → St} {R : St} {L : Nat} (hwf : wf K n) (hk : okK n K F T) (hQ : ∀ t, t < L → rEs n K F T (Q t) (Q (t + 1))) (hR : rEs n K F T R R) (hn : 0 < n) : ∀ t', 1 + 3 * n ≤ t' → t' ≤ L → ∀ j, j < n → sm (Q t') R j := by
  intro t' h1 h2 j hj
  refine spread hwf hk hQ hR 64 0 n hwf (by decide) (Nat.le_refl _) 1 (fun t a b => ?_) t' (by omega) h2 j (Nat.zero_le _) hj
  obtain ⟨s, rfl⟩ : ∃ s, t = s + 1 := ⟨t - 1, by omega⟩
  rw [(hQ s (by omega) 0 hn).1, (hR 0 hn).1]
  rfl
end SPREAD
