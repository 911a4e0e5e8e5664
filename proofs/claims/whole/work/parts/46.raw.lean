/-! the class's program cells as they are, and what its edits do to them -/
def fr (S : Nat → Prop) (σ σ' : Mem) : Prop := ∀ c, ¬ S c → σ'.1 c = σ.1 c ∧ σ'.2 c = σ.2 c
theorem fr_rf (S : Nat → Prop) (σ : Mem) : fr S σ σ := fun _ _ => ⟨rfl, rfl⟩
theorem fr_tr {S : Nat → Prop} {σ σ1 σ2 : Mem} (h1 : fr S σ σ1) (h2 : fr S σ1 σ2) : fr S σ σ2 := fun c hc => ⟨(h2 c hc).1.trans (h1 c hc).1, (h2 c hc).2.trans (h1 c hc).2⟩
theorem fr_mono {S S' : Nat → Prop} {σ σ' : Mem} (h : fr S σ σ') (hs : ∀ c, S c → S' c) : fr S' σ σ' := fun c hc => h c (fun q => hc (hs c q))
theorem fr_rI {S : Nat → Prop} (σ : Mem) {c : Nat} (f : Nat → Int32) (h : S c) : fr S σ (rI σ c f) := fun a ha => ⟨rI_ne (fun q => ha (q ▸ h)), rfl⟩
theorem fr_rL {S : Nat → Prop} (σ : Mem) {c : Nat} (f : Nat → Int64) (h : S c) : fr S σ (rL σ c f) := fun a ha => ⟨rfl, rL_ne (fun q => ha (q ▸ h))⟩
def isP (i c : Nat) : Prop := c = cP i ∨ c = cPk i ∨ c = cPf i ∨ c = cPt i ∨ c = cPl i
theorem isP_0 (i : Nat) : isP i (cP i) := Or.inl rfl
theorem isP_k (i : Nat) : isP i (cPk i) := Or.inr (Or.inl rfl)
theorem isP_f (i : Nat) : isP i (cPf i) := Or.inr (Or.inr (Or.inl rfl))
theorem isP_t (i : Nat) : isP i (cPt i) := Or.inr (Or.inr (Or.inr (Or.inl rfl)))
theorem isP_l (i : Nat) : isP i (cPl i) := Or.inr (Or.inr (Or.inr (Or.inr rfl)))
theorem isP_ge {i c : Nat} (h : isP i c) : 44 ≤ c := by
  unfold isP cP cPk cPf cPt cPl at h
  omega
theorem isP_in {i c : Nat} (h : isP i c) : (c - 44) / 5 = i := by
  unfold isP cP cPk cPf cPt cPl at h
  omega
def raw (σ : Mem) (i n c : Nat) (k f : Nat → Int32) (t : Nat → Int64) (l : Nat → Int32) : Prop := σ.1 (cP i) 4 = nI n ∧ σ.1 (cP i) 5 = nI c ∧ σ.1 (cPk i) = k ∧ σ.1 (cPf i) = f ∧ σ.2 (cPt i) = t ∧ σ.1 (cPl i) = l
theorem nP1 (i : Nat) : cP i ≠ cPk i := by unfold cP cPk; omega
theorem nP2 (i : Nat) : cP i ≠ cPf i := by unfold cP cPf; omega
theorem nP3 (i : Nat) : cP i ≠ cPl i := by unfold cP cPl; omega
theorem nP4 (i : Nat) : cPk i ≠ cPf i := by unfold cPk cPf; omega
theorem nP5 (i : Nat) : cPk i ≠ cPl i := by unfold cPk cPl; omega
theorem nP6 (i : Nat) : cPf i ≠ cPl i := by unfold cPf cPl; omega
section RAW
variable {σ : Mem} {i n c : Nat} {k f : Nat → Int32} {t : Nat → Int64} {l : Nat → Int32}
theorem raw_k (h : raw σ i n c k f t l) (k' : Nat → Int32) : raw (rI σ (cPk i) k') i n c k' f t l := by
  obtain ⟨h1, h2, h3, h4, h5, h6⟩ := h
  exact ⟨by rw [rI_ne (nP1 i)]; exact h1, by rw [rI_ne (nP1 i)]; exact h2, rI_at _ _ _, by rw [rI_ne (nP4 i).symm]; exact h4, h5, by rw [rI_ne (nP5 i).symm]; exact h6⟩
theorem raw_f (h : raw σ i n c k f t l) (f' : Nat → Int32) : raw (rI σ (cPf i) f') i n c k f' t l := by
  obtain ⟨h1, h2, h3, h4, h5, h6⟩ := h
  exact ⟨by rw [rI_ne (nP2 i)]; exact h1, by rw [rI_ne (nP2 i)]; exact h2, by rw [rI_ne (nP4 i)]; exact h3, rI_at _ _ _, h5, by rw [rI_ne (nP6 i).symm]; exact h6⟩
theorem raw_t (h : raw σ i n c k f t l) (t' : Nat → Int64) : raw (rL σ (cPt i) t') i n c k f t' l := by
  obtain ⟨h1, h2, h3, h4, h5, h6⟩ := h
  exact ⟨h1, h2, h3, h4, rL_at _ _ _, h6⟩
theorem raw_l (h : raw σ i n c k f t l) (l' : Nat → Int32) : raw (rI σ (cPl i) l') i n c k f t l' := by
  obtain ⟨h1, h2, h3, h4, h5, h6⟩ := h
  exact ⟨by rw [rI_ne (nP3 i)]; exact h1, by rw [rI_ne (nP3 i)]; exact h2, by rw [rI_ne (nP5 i)]; exact h3, by rw [rI_ne (nP6 i)]; exact h4, h5, rI_at _ _ _⟩
theorem raw_n (h : raw σ i n c k f t l) {v : Int32} (n' : Nat) (hv : v = nI n') : raw (sI σ (cP i) 4 v) i n' c k f t l := by
  obtain ⟨h1, h2, h3, h4, h5, h6⟩ := h
  refine ⟨?_, ?_, by rw [rI_ne (nP1 i).symm]; exact h3, by rw [rI_ne (nP2 i).symm]; exact h4, h5, by rw [rI_ne (nP3 i).symm]; exact h6⟩
  · rw [rI_at, pk_us, hv]
  · rw [rI_at, pk_un (by decide)]; exact h2
theorem raw_c (h : raw σ i n c k f t l) {v : Int32} (c' : Nat) (hv : v = nI c') : raw (sI σ (cP i) 5 v) i n c' k f t l := by
  obtain ⟨h1, h2, h3, h4, h5, h6⟩ := h
  refine ⟨?_, ?_, by rw [rI_ne (nP1 i).symm]; exact h3, by rw [rI_ne (nP2 i).symm]; exact h4, h5, by rw [rI_ne (nP3 i).symm]; exact h6⟩
  · rw [rI_at, pk_un (by decide)]; exact h1
  · rw [rI_at, pk_us, hv]
theorem cpOk_nI {a b d n0 n1 : Nat} (h1 : a + d ≤ n0) (h2 : b + d ≤ n1) (h3 : n0 < 2 ^ 31) (h4 : n1 < 2 ^ 31) : cpOk (nI a) (nI b) (nI d) n0 n1 = true := by
  unfold cpOk
  rw [decide_eq_false (nI_pos (by omega)), decide_eq_false (nI_pos (by omega)), decide_eq_false (nI_pos (by omega)), nI_clamp (by omega), nI_clamp (by omega), nI_clamp (by omega), decide_eq_true h1, decide_eq_true h2]
  rfl
theorem s_Pr_moveTail (h : raw σ i n c k f t l) {a b : Nat} (ha : a ≤ n) (hn : n ≤ 40) (hb : n + b - a ≤ 40) : ∃ σ', f_Pr_moveTail i (nI a) (nI b) σ = some ((), σ') ∧ fr (isP i) σ σ' ∧ raw σ' i (n + b - a) c (va_cpy k k a b (n - a)) (va_cpy f f a b (n - a)) (va_cpy t t a b (n - a)) (va_cpy l l a b (n - a)) := by
  have ok : cpOk (nI a) (nI b) (nI (n - a)) 40 40 = true := cpOk_nI (by omega) (by omega) (by decide) (by decide)
  unfold f_Pr_moveTail
  simp only [lt_]
  rw [h.1, pk_sub ha, gd_t ok, gd_t ok, gd_t ok, gd_t ok, nI_clamp (by omega), nI_clamp (by omega), nI_clamp (by omega)]
  have h1 := raw_k h (va_cpy (σ.1 (cPk i)) (σ.1 (cPk i)) a b (n - a))
  rw [h.2.2.1] at h1 ⊢
  have g1 := fr_rI (S := isP i) σ (va_cpy k k a b (n - a)) (isP_k i)
  generalize rI σ (cPk i) (va_cpy k k a b (n - a)) = σ1 at h1 g1 ⊢
  have h2 := raw_f h1 (va_cpy (σ1.1 (cPf i)) (σ1.1 (cPf i)) a b (n - a))
  rw [h1.2.2.2.1] at h2 ⊢
  have g2 := fr_tr g1 (fr_rI (S := isP i) σ1 (va_cpy f f a b (n - a)) (isP_f i))
  generalize rI σ1 (cPf i) (va_cpy f f a b (n - a)) = σ2 at h2 g2 ⊢
  have h3 := raw_t h2 (va_cpy (σ2.2 (cPt i)) (σ2.2 (cPt i)) a b (n - a))
  rw [h2.2.2.2.2.1] at h3 ⊢
  have g3 := fr_tr g2 (fr_rL (S := isP i) σ2 (va_cpy t t a b (n - a)) (isP_t i))
  generalize rL σ2 (cPt i) (va_cpy t t a b (n - a)) = σ3 at h3 g3 ⊢
  have h4 := raw_l h3 (va_cpy (σ3.1 (cPl i)) (σ3.1 (cPl i)) a b (n - a))
  rw [h3.2.2.2.2.2] at h4 ⊢
  have g4 := fr_tr g3 (fr_rI (S := isP i) σ3 (va_cpy l l a b (n - a)) (isP_l i))
  generalize rI σ3 (cPl i) (va_cpy l l a b (n - a)) = σ4 at h4 g4 ⊢
  refine ⟨_, rfl, fr_tr g4 (fr_rI σ4 _ (isP_0 i)), raw_n h4 (n + b - a) ?_⟩
  rw [h4.1]
  rcases Nat.le_total a b with q | q
  · rw [pk_sub q, nI_add]
    congr 1
    omega
  · have e1 : nI b - nI a = -(nI (a - b)) := by
      rw [← pk_sub q, Int32.neg_sub]
    rw [e1, ← Int32.sub_eq_add_neg, pk_sub (by omega)]
    congr 1
    omega
theorem s_Pr_write (h : raw σ i n c k f t l) {a : Nat} (ha : a < 40) (x y : Int32) (z : Int64) : ∃ σ', f_Pr_write i (nI a) x y z σ = some ((), σ') ∧ fr (isP i) σ σ' ∧ raw σ' i n c (upd k a x) (upd f a y) (vp_updL t a z) l := by
  unfold f_Pr_write
  simp only [lt_]
  rw [gd_t (inb_nI ha (by decide)), gd_t (inb_nI ha (by decide)), gd_t (inb_nI ha (by decide)), nI_clamp (by omega)]
  have h1 := raw_k h (upd (σ.1 (cPk i)) a x)
  rw [h.2.2.1] at h1
  have g1 := fr_rI (S := isP i) σ (upd k a x) (isP_k i)
  unfold sI sL
  rw [h.2.2.1]
  generalize rI σ (cPk i) (upd k a x) = σ1 at h1 g1 ⊢
  have h2 := raw_f h1 (upd (σ1.1 (cPf i)) a y)
  rw [h1.2.2.2.1] at h2 ⊢
  have g2 := fr_tr g1 (fr_rI (S := isP i) σ1 (upd f a y) (isP_f i))
  generalize rI σ1 (cPf i) (upd f a y) = σ2 at h2 g2 ⊢
  have h3 := raw_t h2 (vp_updL (σ2.2 (cPt i)) a z)
  rw [h2.2.2.2.2.1] at h3 ⊢
  exact ⟨_, rfl, fr_tr g2 (fr_rL σ2 _ (isP_t i)), h3⟩
def shL (l : Nat → Int32) (b e : Nat) (v : Int32) : Nat → Int32 := fun j => if b ≤ j ∧ j < e then l j + v else l j
theorem s_Pr_shiftLevels (h : raw σ i n c k f t l) {b e : Nat} (v : Int32) (hbe : b ≤ e) (he : e ≤ 40) : ∃ σ', f_Pr_shiftLevels i (nI b) (nI e) v σ = some ((), σ') ∧ fr (isP i) σ σ' ∧ raw σ' i n c k f t (shL l b e v) := by
  have key : ∀ (d m : Nat) (σ1 : Mem), b ≤ m → m + d = e → raw σ1 i n c k f t (shL l b m v) → fr (isP i) σ σ1 → ∃ σ', loopF (fun (q : (Int32 × Mem)) => f_Pr_shiftLevels_L3 i (nI b) (nI e) v q.1 q.2) (d + 1) (nI m, σ1) = some ((), σ') ∧ fr (isP i) σ σ' ∧ raw σ' i n c k f t (shL l b e v) := by
    intro d
    induction d with
    | zero =>
      intro m σ1 hbm hm h1 g1
      obtain rfl : m = e := by omega
      refine ⟨σ1, lp_exit ?_, g1, h1⟩
      show f_Pr_shiftLevels_L3 i (nI b) (nI m) v (nI m) σ1 = _
      unfold f_Pr_shiftLevels_L3
      rw [if_pos ((nIle (by omega) (by omega)).mpr (Nat.le_refl _))]
      rfl
    | succ d ih =>
      intro m σ1 hbm hm h1 g1
      have h2 := raw_l h1 (upd (σ1.1 (cPl i)) m (σ1.1 (cPl i) m + v))
      have e1 : upd (σ1.1 (cPl i)) m (σ1.1 (cPl i) m + v) = shL l b (m + 1) v := by
        rw [h1.2.2.2.2.2]
        funext j
        unfold upd shL
        by_cases hj : j = m
        · subst hj
          rw [if_pos rfl, if_neg (by omega), if_pos (by omega)]
        · rw [if_neg hj]
          by_cases hq : b ≤ j ∧ j < m
          · rw [if_pos hq, if_pos (by omega)]
          · rw [if_neg hq, if_neg (by omega)]
      rw [e1] at h2
      obtain ⟨σ', i1, i2, i3⟩ := ih (m + 1) _ (by omega) (by omega) h2 (fr_tr g1 (fr_rI σ1 _ (isP_l i)))
      refine ⟨σ', lp_step ?_ i1, i2, i3⟩
      show f_Pr_shiftLevels_L3 i (nI b) (nI e) v (nI m) σ1 = _
      unfold f_Pr_shiftLevels_L3
      rw [if_neg (fun q => by have := (nIle (by omega) (by omega)).mp q; omega), gd_t (inb_nI (by omega) (by decide)), gd_t (inb_nI (by omega) (by decide)), nI_clamp (by omega)]
      simp only [lt_]
      unfold sI
      rw [e1, nI_1]
  have h0 : raw σ i n c k f t (shL l b b v) := by
    have e0 : shL l b b v = l := by
      funext j
      unfold shL
      rw [if_neg (by omega)]
    rw [e0]
    exact h
  obtain ⟨σ', i1, i2, i3⟩ := key (e - b) b σ (Nat.le_refl _) (by omega) h0 (fr_rf _ _)
  exact ⟨σ', lp_FU i1 (by omega), i2, i3⟩
/-- end by levels alone -/
theorem s_Pr_endR (h : raw σ i n c k f t l) {lv : Nat → Nat} (hn : n ≤ 40) (hlv : ∀ j, j < n → l j = nI (lv j) ∧ lv j < 100) {a e : Nat} (ha : a < e) (he : e ≤ n) (hin : ∀ j, a < j → j < e → lv a < lv j) (hout : e < n → lv e ≤ lv a) : f_Pr_end i (nI a) σ = some (nI e, σ) := by
  obtain ⟨hz, _, _, _, _, hl⟩ := h
  have key : ∀ (d m : Nat), a < m → m + d = e → loopF (fun (q : (Int32 × Mem)) => f_Pr_end_L4 i (nI a) q.1 q.2) (d + 1) (nI m, σ) = some (nI e, σ) := by
    intro d
    induction d with
    | zero =>
      intro m hm hd
      obtain rfl : m = e := by omega
      refine lp_exit ?_
      show f_Pr_end_L4 i (nI a) (nI m) σ = _
      unfold f_Pr_end_L4 f_Pr_end_J33
      rw [hz]
      by_cases hq : n ≤ m
      · rw [if_pos ((nIle (by omega) (by omega)).mpr hq)]
        rfl
      · have b1 := hlv m (by omega)
        have b2 := hlv a (by omega)
        rw [if_neg (fun h => hq ((nIle (by omega) (by omega)).mp h)), gd_t (inb_nI (by omega) (by omega)), gd_t (inb_nI (by omega) (by omega)), nI_clamp (by omega), nI_clamp (by omega), hl, b1.1, b2.1]
        rw [if_pos ((nIle (by omega) (by omega)).mpr (hout (by omega)))]
        rfl
    | succ d ih =>
      intro m hm hd
      have b1 := hlv m (by omega)
      have b2 := hlv a (by omega)
      refine lp_step (b := (nI (m + 1), σ)) ?_ (ih (m + 1) (by omega) (by omega))
      show f_Pr_end_L4 i (nI a) (nI m) σ = _
      unfold f_Pr_end_L4
      rw [hz, if_neg (fun h => by have := (nIle (by omega) (by omega)).mp h; omega), gd_t (inb_nI (by omega) (by omega)), gd_t (inb_nI (by omega) (by omega)), nI_clamp (by omega), nI_clamp (by omega), hl, b1.1, b2.1]
      rw [if_neg (fun h => by have := (nIle (by omega) (by omega)).mp h; have := hin m hm (by omega); omega)]
      show some (Sum.inl (nI m + 1, σ)) = _
      rw [nI_1]
  unfold f_Pr_end
  simp only [lt_]
  rw [nI_1]
  exact lp_FU (key (e - (a + 1)) (a + 1) (by omega) (by omega)) (by omega)
end RAW
