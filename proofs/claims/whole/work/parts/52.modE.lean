/-! the reference's edits of its rows -/
def mR (c : Nat) : Prop := c = 16 ∨ c = 17 ∨ c = 18
def rawM (σ : Mem) (k f : Nat → Int32) (t : Nat → Int64) : Prop := σ.1 16 = k ∧ σ.1 17 = f ∧ σ.2 18 = t
theorem rawM_k {σ : Mem} {k f : Nat → Int32} {t : Nat → Int64} (h : rawM σ k f t) (x : Nat → Int32) : rawM (rI σ 16 x) x f t := ⟨rI_at _ _ _, by rw [rI_ne (by decide)]; exact h.2.1, h.2.2⟩
theorem rawM_f {σ : Mem} {k f : Nat → Int32} {t : Nat → Int64} (h : rawM σ k f t) (x : Nat → Int32) : rawM (rI σ 17 x) k x t := ⟨by rw [rI_ne (by decide)]; exact h.1, rI_at _ _ _, h.2.2⟩
theorem rawM_t {σ : Mem} {k f : Nat → Int32} {t : Nat → Int64} (h : rawM σ k f t) (x : Nat → Int64) : rawM (rL σ 18 x) k f x := ⟨h.1, h.2.1, rL_at _ _ _⟩
theorem rawM_o {σ : Mem} {k f : Nat → Int32} {t : Nat → Int64} (h : rawM σ k f t) (x : Nat → Int32) : rawM (rI σ 15 x) k f t := ⟨by rw [rI_ne (by decide)]; exact h.1, by rw [rI_ne (by decide)]; exact h.2.1, h.2.2⟩
section SH
variable {σ : Mem} {k f : Nat → Int32} {t : Nat → Int64}
theorem s_Mo_shift (h : rawM σ k f t) {a b : Nat} (ha : a < 48) (hb : b < 48) : ∃ σ', f_Mo_shift (nI a) (nI b) σ = some ((), σ') ∧ fr mR σ σ' ∧ rawM σ' (upd k b (k a)) (upd f b (f a)) (vp_updL t b (t a)) := by
  unfold f_Mo_shift
  simp only [lt_]
  rw [gd_t (inb_nI ha (by decide)), gd_t (inb_nI hb (by decide)), gd_t (inb_nI ha (by decide)), gd_t (inb_nI hb (by decide)), gd_t (inb_nI ha (by decide)), gd_t (inb_nI hb (by decide)), nI_clamp (by omega), nI_clamp (by omega)]
  have h1 := rawM_k h (upd k b (k a))
  have g1 : fr mR σ (rI σ 16 (upd k b (k a))) := fr_rI _ _ (Or.inl rfl)
  unfold sI sL
  rw [h.1]
  generalize rI σ 16 (upd k b (k a)) = σ1 at h1 g1 ⊢
  have h2 := rawM_f h1 (upd f b (f a))
  have g2 : fr mR σ (rI σ1 17 (upd f b (f a))) := fr_tr g1 (fr_rI _ _ (Or.inr (Or.inl rfl)))
  rw [h1.2.1]
  generalize rI σ1 17 (upd f b (f a)) = σ2 at h2 g2 ⊢
  have h3 := rawM_t h2 (vp_updL t b (t a))
  rw [h2.2.2]
  exact ⟨_, rfl, fr_tr g2 (fr_rL _ _ (Or.inr (Or.inr rfl))), h3⟩
def stA {α : Type} (x : Nat → α) (m n : Nat) : Nat → α := fun j => if m < j ∧ j ≤ n then x (j - 1) else x j
theorem stA_n {α : Type} (x : Nat → α) (n : Nat) : stA x n n = x := by
  funext j
  unfold stA
  rw [if_neg (by omega)]
theorem stA_s {α : Type} (x : Nat → α) {m n : Nat} (h : m + 1 ≤ n) {u : (Nat → α) → Nat → α → Nat → α} (hu : ∀ g k w q, u g k w q = if q = k then w else g q) : u (stA x (m + 1) n) (m + 1) (stA x (m + 1) n m) = stA x m n := by
  funext j
  rw [hu]
  unfold stA
  by_cases q : j = m + 1
  · subst q
    rw [if_pos rfl, if_neg (by omega), if_pos (by omega)]
    congr 1
  · rw [if_neg q]
    by_cases z : m + 1 < j ∧ j ≤ n
    · rw [if_pos z, if_pos (by omega)]
    · rw [if_neg z, if_neg (by omega)]
theorem stA_i {α : Type} (x : Nat → α) {a n j : Nat} (v : α) (hj : j < n + 1) {u : (Nat → α) → Nat → α → Nat → α} (hu : ∀ g k w q, u g k w q = if q = k then w else g q) : u (stA x a n) a v j = insF x a v j := by
  rw [hu]
  unfold stA insF
  rcases Nat.lt_trichotomy j a with q | q | q
  · rw [if_neg (by omega), if_neg (by omega), if_pos q]
  · rw [if_pos q, if_neg (by omega), if_pos q]
  · rw [if_neg (by omega), if_pos (by omega), if_neg (by omega), if_neg (by omega)]
def mRo (c : Nat) : Prop := c = 15 ∨ c = 16 ∨ c = 17 ∨ c = 18
theorem mR_o {c : Nat} (h : mR c) : mRo c := Or.inr h
theorem s_Mo_insert (h : rawM σ k f t) {n a : Nat} (hn : σ.1 15 0 = nI n) (ha : a ≤ n) (hn2 : n + 1 ≤ 48) (x y : Int32) (z : Int64) : ∃ σ' k' f' t', f_Mo_insert (nI a) x y z σ = some ((), σ') ∧ fr mRo σ σ' ∧ σ'.1 15 = upd (σ.1 15) 0 (nI (n + 1)) ∧ rawM σ' k' f' t' ∧ ∀ j, j < n + 1 → k' j = insF k a x j ∧ f' j = insF f a y j ∧ t' j = insF t a z j := by
  have key : ∀ (d m : Nat) (σ1 : Mem), m = a + d → m ≤ n → rawM σ1 (stA k m n) (stA f m n) (stA t m n) → fr mR σ σ1 → ∃ σ', loopF (fun (q : (Int32 × Mem)) => f_Mo_insert_L6 (nI a) x y z q.1 q.2) (d + 1) (nI m, σ1) = some ((), σ') ∧ fr mRo σ σ' ∧ σ'.1 15 = upd (σ.1 15) 0 (nI (n + 1)) ∧ rawM σ' (upd (stA k a n) a x) (upd (stA f a n) a y) (vp_updL (stA t a n) a z) := by
    intro d
    induction d with
    | zero =>
      intro m σ1 hm hmn h1 g1
      obtain rfl : m = a := by omega
      have o1 : σ1.1 15 = σ.1 15 := (g1 15 (by unfold mR; omega)).1
      have h2 := rawM_k h1 (upd (stA k m n) m x)
      have g2 : fr mR σ (rI σ1 16 (upd (stA k m n) m x)) := fr_tr g1 (fr_rI _ _ (Or.inl rfl))
      obtain ⟨σ2, hσ2⟩ : ∃ s, s = rI σ1 16 (upd (stA k m n) m x) := ⟨_, rfl⟩
      rw [← hσ2] at h2 g2
      have h3 := rawM_f h2 (upd (stA f m n) m y)
      have g3 : fr mR σ (rI σ2 17 (upd (stA f m n) m y)) := fr_tr g2 (fr_rI _ _ (Or.inr (Or.inl rfl)))
      obtain ⟨σ3, hσ3⟩ : ∃ s, s = rI σ2 17 (upd (stA f m n) m y) := ⟨_, rfl⟩
      rw [← hσ3] at h3 g3
      have h4 := rawM_t h3 (vp_updL (stA t m n) m z)
      have g4 : fr mR σ (rL σ3 18 (vp_updL (stA t m n) m z)) := fr_tr g3 (fr_rL _ _ (Or.inr (Or.inr rfl)))
      obtain ⟨σ4, hσ4⟩ : ∃ s, s = rL σ3 18 (vp_updL (stA t m n) m z) := ⟨_, rfl⟩
      rw [← hσ4] at h4 g4
      have o4 : σ4.1 15 = σ.1 15 := (g4 15 (by unfold mR; omega)).1
      refine ⟨rI σ4 15 (upd (σ.1 15) 0 (nI (n + 1))), lp_exit ?_, fr_tr (fr_mono g4 (fun c q => mR_o q)) (fr_rI _ _ (Or.inl rfl)), rI_at _ _ _, rawM_o h4 _⟩
      show f_Mo_insert_L6 (nI m) x y z (nI m) σ1 = _
      unfold f_Mo_insert_L6
      simp only [lt_]
      rw [if_pos ((nIle (by omega) (by omega)).mpr (Nat.le_refl _)), gd_t (inb_nI (by omega) (by decide)), gd_t (inb_nI (by omega) (by decide)), gd_t (inb_nI (by omega) (by decide)), nI_clamp (by omega)]
      unfold sI sL
      rw [h1.1, ← hσ2, h2.2.1, ← hσ3, h3.2.2, ← hσ4, o4, hn, nI_1]
      rfl
    | succ d ih =>
      intro m σ1 hm hmn h1 g1
      obtain ⟨m', rfl⟩ : ∃ m', m = m' + 1 := ⟨m - 1, by omega⟩
      obtain ⟨σ2, a1, a2, a3⟩ := s_Mo_shift h1 (a := m') (b := m' + 1) (by omega) (by omega)
      rw [stA_s k hmn (u := upd) (fun _ _ _ _ => rfl), stA_s f hmn (u := upd) (fun _ _ _ _ => rfl), stA_s t hmn (u := vp_updL) (fun _ _ _ _ => rfl)] at a3
      obtain ⟨σ', i1, i2, i3, i4⟩ := ih m' σ2 (by omega) (by omega) a3 (fr_tr g1 a2)
      refine ⟨σ', lp_step (b := (nI m', σ2)) ?_ i1, i2, i3, i4⟩
      show f_Mo_insert_L6 (nI a) x y z (nI (m' + 1)) σ1 = _
      unfold f_Mo_insert_L6
      rw [if_neg (fun q => by have := (nIle (by omega) (by omega)).mp q; omega), nI_pred, a1, bn_q]
      simp only [lt_]
      rw [pk_m1]
  obtain ⟨σ', i1, i2, i3, i4⟩ := key (n - a) n σ (by omega) (Nat.le_refl _) (by rw [stA_n, stA_n, stA_n]; exact h) (fr_rf _ _)
  refine ⟨σ', _, _, _, ?_, i2, i3, i4, fun j hj => ⟨stA_i k x hj (u := upd) (fun _ _ _ _ => rfl), stA_i f y hj (u := upd) (fun _ _ _ _ => rfl), stA_i t z hj (u := vp_updL) (fun _ _ _ _ => rfl)⟩⟩
  unfold f_Mo_insert
  simp only [lt_]
  rw [hn]
  exact lp_FU i1 (by omega)
def tkA {α : Type} (x : Nat → α) (a g m : Nat) : Nat → α := fun j => if a ≤ j ∧ j + g < m then x (j + g) else x j
theorem tkA_s {α : Type} (x : Nat → α) {a g m : Nat} (h : a + g ≤ m) {u : (Nat → α) → Nat → α → Nat → α} (hu : ∀ g k w q, u g k w q = if q = k then w else g q) : u (tkA x a g m) (m - g) (tkA x a g m m) = tkA x a g (m + 1) := by
  funext j
  rw [hu]
  unfold tkA
  by_cases q : j = m - g
  · rw [if_pos q, if_neg (by omega), if_pos (by omega)]
    congr 1
    omega
  · rw [if_neg q]
    by_cases z : a ≤ j ∧ j + g < m
    · rw [if_pos z, if_pos (by omega)]
    · rw [if_neg z, if_neg (by omega)]
theorem s_Mo_takeOut (h : rawM σ k f t) {n a b : Nat} (hn : σ.1 15 0 = nI n) (hab : a ≤ b) (hb : b ≤ n) (hn2 : n ≤ 48) : ∃ σ' k' f' t', f_Mo_takeOut (nI a) (nI b) σ = some ((), σ') ∧ fr mRo σ σ' ∧ σ'.1 15 = upd (σ.1 15) 0 (nI (n - (b - a))) ∧ rawM σ' k' f' t' ∧ ∀ j, j < n - (b - a) → k' j = (if j < a then k j else k (j + (b - a))) ∧ f' j = (if j < a then f j else f (j + (b - a))) ∧ t' j = (if j < a then t j else t (j + (b - a))) := by
  have eg : nI b - nI a = nI (b - a) := pk_sub hab
  have key : ∀ (d m : Nat) (σ1 : Mem), m + d = n → b ≤ m → rawM σ1 (tkA k a (b - a) m) (tkA f a (b - a) m) (tkA t a (b - a) m) → fr mR σ σ1 → ∃ σ', loopF (fun (q : (Int32 × Mem)) => f_Mo_takeOut_L2 (nI a) (nI b) q.1 q.2) (d + 1) (nI m, σ1) = some ((), σ') ∧ fr mRo σ σ' ∧ σ'.1 15 = upd (σ.1 15) 0 (nI (n - (b - a))) ∧ rawM σ' (tkA k a (b - a) n) (tkA f a (b - a) n) (tkA t a (b - a) n) := by
    intro d
    induction d with
    | zero =>
      intro m σ1 hm hbm h1 g1
      obtain rfl : m = n := by omega
      have o1 : σ1.1 15 = σ.1 15 := (g1 15 (by unfold mR; omega)).1
      refine ⟨rI σ1 15 (upd (σ.1 15) 0 (nI (m - (b - a)))), lp_exit ?_, fr_tr (fr_mono g1 (fun c q => mR_o q)) (fr_rI _ _ (Or.inl rfl)), rI_at _ _ _, rawM_o h1 _⟩
      show f_Mo_takeOut_L2 (nI a) (nI b) (nI m) σ1 = _
      unfold f_Mo_takeOut_L2
      simp only [lt_]
      unfold sI
      rw [o1, hn, if_pos ((nIle (by omega) (by omega)).mpr (Nat.le_refl _)), eg, pk_sub (by omega)]
      rfl
    | succ d ih =>
      intro m σ1 hm hbm h1 g1
      have o1 : σ1.1 15 = σ.1 15 := (g1 15 (by unfold mR; omega)).1
      obtain ⟨σ2, a1, a2, a3⟩ := s_Mo_shift h1 (a := m) (b := m - (b - a)) (by omega) (by omega)
      rw [tkA_s k (by omega) (u := upd) (fun _ _ _ _ => rfl), tkA_s f (by omega) (u := upd) (fun _ _ _ _ => rfl), tkA_s t (by omega) (u := vp_updL) (fun _ _ _ _ => rfl)] at a3
      obtain ⟨σ', i1, i2, i3, i4⟩ := ih (m + 1) σ2 (by omega) (by omega) a3 (fr_tr g1 a2)
      refine ⟨σ', lp_step (b := (nI (m + 1), σ2)) ?_ i1, i2, i3, i4⟩
      show f_Mo_takeOut_L2 (nI a) (nI b) (nI m) σ1 = _
      unfold f_Mo_takeOut_L2
      rw [o1, hn, if_neg (fun q => by have := (nIle (by omega) (by omega)).mp q; omega), eg, pk_sub (by omega), a1, bn_q]
      simp only [lt_]
      rw [nI_1]
  have h0 : ∀ {α : Type} (x : Nat → α), tkA x a (b - a) b = x := by
    intro α x
    funext j
    unfold tkA
    by_cases q : a ≤ j ∧ j + (b - a) < b
    · omega
    · rw [if_neg q]
  obtain ⟨σ', i1, i2, i3, i4⟩ := key (n - b) b σ (by omega) (Nat.le_refl _) (by rw [h0, h0, h0]; exact h) (fr_rf _ _)
  have fin : ∀ {α : Type} (x : Nat → α) (j : Nat), j < n - (b - a) → tkA x a (b - a) n j = if j < a then x j else x (j + (b - a)) := by
    intro α x j hj
    unfold tkA
    by_cases q : j < a
    · rw [if_neg (by omega), if_pos q]
    · rw [if_pos (by omega), if_neg q]
  exact ⟨σ', _, _, _, lp_FU i1 (by omega), i2, i3, i4, fun j hj => ⟨fin k j hj, fin f j hj, fin t j hj⟩⟩
end SH
