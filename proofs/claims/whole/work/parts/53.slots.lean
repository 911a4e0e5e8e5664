/-! the reference's kept programs: slots of 40 places -/
def atS (σ : Mem) (s : Nat) (A : Pg) : Prop := σ.1 19 s = nI A.1 ∧ σ.1 20 s = nI A.2.1 ∧ rr A.1 (fun j => σ.1 21 (40 * s + j)) (fun j => σ.1 22 (40 * s + j)) (fun j => σ.2 23 (40 * s + j)) A.2.2.1 A.2.2.2.1 A.2.2.2.2
def slE (s : Nat) (σ σ' : Mem) : Prop := σ'.1 19 s = σ.1 19 s ∧ σ'.1 20 s = σ.1 20 s ∧ ∀ j, j < 40 → σ'.1 21 (40 * s + j) = σ.1 21 (40 * s + j) ∧ σ'.1 22 (40 * s + j) = σ.1 22 (40 * s + j) ∧ σ'.2 23 (40 * s + j) = σ.2 23 (40 * s + j)
theorem atS_sl {σ σ' : Mem} {s : Nat} {A : Pg} (h : atS σ s A) (hn : A.1 ≤ 40) (hs : slE s σ σ') : atS σ' s A := by
  obtain ⟨h1, h2, h3⟩ := h
  obtain ⟨s1, s2, s3⟩ := hs
  exact ⟨by rw [s1]; exact h1, by rw [s2]; exact h2, rr_of h3 (fun j hj => (s3 j (by omega)).1) (fun j hj _ => (s3 j (by omega)).2.1) (fun j hj _ => (s3 j (by omega)).2.2)⟩
theorem slE_tr {s : Nat} {σ σ1 σ2 : Mem} (h1 : slE s σ σ1) (h2 : slE s σ1 σ2) : slE s σ σ2 := ⟨h2.1.trans h1.1, h2.2.1.trans h1.2.1, fun j hj => ⟨(h2.2.2 j hj).1.trans (h1.2.2 j hj).1, (h2.2.2 j hj).2.1.trans (h1.2.2 j hj).2.1, (h2.2.2 j hj).2.2.trans (h1.2.2 j hj).2.2⟩⟩
def mS (c : Nat) : Prop := c = 19 ∨ c = 20 ∨ c = 21 ∨ c = 22 ∨ c = 23
theorem slE_fr {s : Nat} {σ σ' : Mem} {S : Nat → Prop} (h : fr S σ σ') (hS : ∀ c, mS c → ¬ S c) : slE s σ σ' := by
  have a19 := (h 19 (hS _ (Or.inl rfl))).1
  have a20 := (h 20 (hS _ (Or.inr (Or.inl rfl)))).1
  have a21 := (h 21 (hS _ (Or.inr (Or.inr (Or.inl rfl))))).1
  have a22 := (h 22 (hS _ (Or.inr (Or.inr (Or.inr (Or.inl rfl)))))).1
  have a23 := (h 23 (hS _ (Or.inr (Or.inr (Or.inr (Or.inr rfl)))))).2
  exact ⟨by rw [a19], by rw [a20], fun j _ => ⟨by rw [a21], by rw [a22], by rw [a23]⟩⟩
theorem n40 (s k : Nat) : (40 : Int32) * nI s + nI k = nI (40 * s + k) := by
  have h : (40 : Int32) * nI s = nI (40 * s) := pk_mul 40 s
  rw [h, nI_add]
def rawS (σ : Mem) (ct cu k f : Nat → Int32) (t : Nat → Int64) : Prop := σ.1 19 = ct ∧ σ.1 20 = cu ∧ σ.1 21 = k ∧ σ.1 22 = f ∧ σ.2 23 = t
section RS
variable {σ : Mem} {ct cu k f : Nat → Int32} {t : Nat → Int64}
theorem rawS_0 (h : rawS σ ct cu k f t) (x : Nat → Int32) : rawS (rI σ 19 x) x cu k f t := ⟨rI_at _ _ _, by rw [rI_ne (by decide)]; exact h.2.1, by rw [rI_ne (by decide)]; exact h.2.2.1, by rw [rI_ne (by decide)]; exact h.2.2.2.1, h.2.2.2.2⟩
theorem rawS_1 (h : rawS σ ct cu k f t) (x : Nat → Int32) : rawS (rI σ 20 x) ct x k f t := ⟨by rw [rI_ne (by decide)]; exact h.1, rI_at _ _ _, by rw [rI_ne (by decide)]; exact h.2.2.1, by rw [rI_ne (by decide)]; exact h.2.2.2.1, h.2.2.2.2⟩
theorem rawS_k (h : rawS σ ct cu k f t) (x : Nat → Int32) : rawS (rI σ 21 x) ct cu x f t := ⟨by rw [rI_ne (by decide)]; exact h.1, by rw [rI_ne (by decide)]; exact h.2.1, rI_at _ _ _, by rw [rI_ne (by decide)]; exact h.2.2.2.1, h.2.2.2.2⟩
theorem rawS_f (h : rawS σ ct cu k f t) (x : Nat → Int32) : rawS (rI σ 22 x) ct cu k x t := ⟨by rw [rI_ne (by decide)]; exact h.1, by rw [rI_ne (by decide)]; exact h.2.1, by rw [rI_ne (by decide)]; exact h.2.2.1, rI_at _ _ _, h.2.2.2.2⟩
theorem rawS_t (h : rawS σ ct cu k f t) (x : Nat → Int64) : rawS (rL σ 23 x) ct cu k f x := ⟨h.1, h.2.1, h.2.2.1, h.2.2.2.1, rL_at _ _ _⟩
end RS
theorem m19 : mS 19 := Or.inl rfl
theorem m20 : mS 20 := Or.inr (Or.inl rfl)
theorem m21 : mS 21 := Or.inr (Or.inr (Or.inl rfl))
theorem m22 : mS 22 := Or.inr (Or.inr (Or.inr (Or.inl rfl)))
theorem m23 : mS 23 := Or.inr (Or.inr (Or.inr (Or.inr rfl)))
/-- a slot's row, its first m places from x -/
def svA {α : Type} (o : Nat → α) (x : Nat → α) (s m : Nat) : Nat → α := fun q => if 40 * s ≤ q ∧ q < 40 * s + m then x (q - 40 * s) else o q
theorem svA_0 {α : Type} (o x : Nat → α) (s : Nat) : svA o x s 0 = o := by
  funext q
  unfold svA
  rw [if_neg (by omega)]
theorem svA_s {α : Type} (o x : Nat → α) (s m : Nat) {u : (Nat → α) → Nat → α → Nat → α} (hu : ∀ g k w q, u g k w q = if q = k then w else g q) : u (svA o x s m) (40 * s + m) (x m) = svA o x s (m + 1) := by
  funext q
  rw [hu]
  unfold svA
  by_cases z : q = 40 * s + m
  · rw [if_pos z, if_pos (by omega)]
    congr 1
    omega
  · rw [if_neg z]
    by_cases y : 40 * s ≤ q ∧ q < 40 * s + m
    · rw [if_pos y, if_pos (by omega)]
    · rw [if_neg y, if_neg (by omega)]
theorem svA_in {α : Type} (o x : Nat → α) {s m j : Nat} (h : j < m) : svA o x s m (40 * s + j) = x j := by
  unfold svA
  rw [if_pos (by omega)]
  congr 1
  omega
theorem svA_out {α : Type} (o x : Nat → α) {s s' m j : Nat} (hm : m ≤ 40) (hj : j < 40) (h : s' ≠ s) : svA o x s m (40 * s' + j) = o (40 * s' + j) := by
  unfold svA
  rw [if_neg (by omega)]
theorem s_Mo_save {σ : Mem} {A : Pg} {s : Nat} (h : atM σ A) (hn : A.1 ≤ 40) (hs : s < 33) : ∃ σ', f_Mo_save (nI s) σ = some ((), σ') ∧ fr mS σ σ' ∧ atS σ' s A ∧ ∀ s', s' ≠ s → slE s' σ σ' := by
  obtain ⟨n, c, K, F, T⟩ := A
  have hn : n ≤ 40 := hn
  have hz : σ.1 15 0 = nI n := h.1
  have hcu : σ.1 15 1 = nI c := h.2.1
  have key : ∀ (d m : Nat) (σ1 : Mem), m + d = n → fr mS σ σ1 → rawS σ1 (upd (σ.1 19) s (nI n)) (upd (σ.1 20) s (nI c)) (svA (σ.1 21) (σ.1 16) s m) (svA (σ.1 22) (σ.1 17) s m) (svA (σ.2 23) (σ.2 18) s m) → ∃ σ', loopF (fun (q : (Int32 × Mem)) => f_Mo_save_L22 (nI s) q.1 q.2) (d + 1) (nI m, σ1) = some ((), σ') ∧ fr mS σ σ' ∧ rawS σ' (upd (σ.1 19) s (nI n)) (upd (σ.1 20) s (nI c)) (svA (σ.1 21) (σ.1 16) s n) (svA (σ.1 22) (σ.1 17) s n) (svA (σ.2 23) (σ.2 18) s n) := by
    intro d
    induction d with
    | zero =>
      intro m σ1 hm g1 h1
      obtain rfl : m = n := by omega
      refine ⟨σ1, lp_exit ?_, g1, h1⟩
      show f_Mo_save_L22 (nI s) (nI m) σ1 = _
      unfold f_Mo_save_L22
      rw [(g1 15 (by unfold mS; omega)).1, hz, if_pos ((nIle (by omega) (by omega)).mpr (Nat.le_refl _))]
      rfl
    | succ d ih =>
      intro m σ1 hm g1 h1
      obtain ⟨σ2, hσ2⟩ : ∃ x, x = rI σ1 21 (svA (σ.1 21) (σ.1 16) s (m + 1)) := ⟨_, rfl⟩
      have h2 := rawS_k h1 (svA (σ.1 21) (σ.1 16) s (m + 1))
      have g2 : fr mS σ (rI σ1 21 (svA (σ.1 21) (σ.1 16) s (m + 1))) := fr_tr g1 (fr_rI _ _ m21)
      rw [← hσ2] at h2 g2
      obtain ⟨σ3, hσ3⟩ : ∃ x, x = rI σ2 22 (svA (σ.1 22) (σ.1 17) s (m + 1)) := ⟨_, rfl⟩
      have h3 := rawS_f h2 (svA (σ.1 22) (σ.1 17) s (m + 1))
      have g3 : fr mS σ (rI σ2 22 (svA (σ.1 22) (σ.1 17) s (m + 1))) := fr_tr g2 (fr_rI _ _ m22)
      rw [← hσ3] at h3 g3
      obtain ⟨σ4, hσ4⟩ : ∃ x, x = rL σ3 23 (svA (σ.2 23) (σ.2 18) s (m + 1)) := ⟨_, rfl⟩
      have h4 := rawS_t h3 (svA (σ.2 23) (σ.2 18) s (m + 1))
      have g4 : fr mS σ (rL σ3 23 (svA (σ.2 23) (σ.2 18) s (m + 1))) := fr_tr g3 (fr_rL _ _ m23)
      rw [← hσ4] at h4 g4
      obtain ⟨σ', i1, i2, i3⟩ := ih (m + 1) σ4 (by omega) g4 h4
      refine ⟨σ', lp_step (b := (nI (m + 1), σ4)) ?_ i1, i2, i3⟩
      show f_Mo_save_L22 (nI s) (nI m) σ1 = _
      have l40 : (40 : Int32) = nI 40 := rfl
      unfold f_Mo_save_L22
      rw [(g1 15 (by unfold mS; omega)).1, hz, if_neg (fun q => by have := (nIle (by omega) (by omega)).mp q; omega), if_neg (show ¬ (40 : Int32) ≤ nI m from fun q => by have := (nIle (a := 40) (by omega) (by omega)).mp q; omega), n40]
      simp only [lt_]
      have ok1 : inb (nI m) 48 = true := inb_nI (by omega) (by decide)
      have ok2 : inb (nI (40 * s + m)) 1320 = true := inb_nI (by omega) (by decide)
      rw [gd_t ok1, gd_t ok2, gd_t ok1, gd_t ok2, gd_t ok1, gd_t ok2, nI_clamp (by omega), nI_clamp (by omega)]
      unfold sI sL
      rw [h1.2.2.1, (g1 16 (by unfold mS; omega)).1, svA_s (σ.1 21) (σ.1 16) s m (u := upd) (fun _ _ _ _ => rfl), ← hσ2, h2.2.2.2.1, (g2 17 (by unfold mS; omega)).1, svA_s (σ.1 22) (σ.1 17) s m (u := upd) (fun _ _ _ _ => rfl), ← hσ3, h3.2.2.2.2, (g3 18 (by unfold mS; omega)).2, svA_s (σ.2 23) (σ.2 18) s m (u := vp_updL) (fun _ _ _ _ => rfl), ← hσ4, nI_1]
  obtain ⟨σ1, hσ1⟩ : ∃ x, x = rI σ 19 (upd (σ.1 19) s (nI n)) := ⟨_, rfl⟩
  have h0 : rawS σ (σ.1 19) (σ.1 20) (σ.1 21) (σ.1 22) (σ.2 23) := ⟨rfl, rfl, rfl, rfl, rfl⟩
  have h1 := rawS_0 h0 (upd (σ.1 19) s (nI n))
  have g1 : fr mS σ (rI σ 19 (upd (σ.1 19) s (nI n))) := fr_rI _ _ m19
  rw [← hσ1] at h1 g1
  obtain ⟨σ2, hσ2⟩ : ∃ x, x = rI σ1 20 (upd (σ.1 20) s (nI c)) := ⟨_, rfl⟩
  have h2 := rawS_1 h1 (upd (σ.1 20) s (nI c))
  have g2 : fr mS σ (rI σ1 20 (upd (σ.1 20) s (nI c))) := fr_tr g1 (fr_rI _ _ m20)
  rw [← hσ2] at h2 g2
  have h2' : rawS σ2 (upd (σ.1 19) s (nI n)) (upd (σ.1 20) s (nI c)) (svA (σ.1 21) (σ.1 16) s 0) (svA (σ.1 22) (σ.1 17) s 0) (svA (σ.2 23) (σ.2 18) s 0) := by
    rw [svA_0, svA_0, svA_0]
    exact h2
  obtain ⟨σ', i1, i2, i3⟩ := key n 0 σ2 (by omega) g2 h2'
  refine ⟨σ', ?_, i2, ⟨?_, ?_, fun j hj => ?_⟩, fun s' hs' => ⟨?_, ?_, fun j hj => ⟨?_, ?_, ?_⟩⟩⟩
  · unfold f_Mo_save
    simp only [lt_]
    rw [gd_t (inb_nI hs (by decide)), gd_t (inb_nI hs (by decide)), nI_clamp (by omega), hz]
    unfold sI
    rw [← hσ1, (g1 15 (by unfold mS; omega)).1, hcu, h1.2.1, ← hσ2]
    exact lp_FU i1 (by omega)
  · rw [i3.1, pk_us]
  · rw [i3.2.1, pk_us]
  · rw [i3.2.2.1, i3.2.2.2.1, i3.2.2.2.2]
    have hj : j < n := hj
    show svA _ _ s n (40 * s + j) = _ ∧ (_ → svA _ _ s n (40 * s + j) = _) ∧ (_ → svA _ _ s n (40 * s + j) = _)
    rw [svA_in _ _ hj, svA_in _ _ hj, svA_in _ _ hj]
    exact h.2.2 j hj
  · rw [i3.1, pk_un hs']
  · rw [i3.2.1, pk_un hs']
  · rw [i3.2.2.1, svA_out _ _ hn hj hs']
  · rw [i3.2.2.2.1, svA_out _ _ hn hj hs']
  · rw [i3.2.2.2.2, svA_out _ _ hn hj hs']
def brA {α : Type} (x : Nat → α) (o : Nat → α) (s m : Nat) : Nat → α := fun q => if q < m then o (40 * s + q) else x q
theorem brA_s {α : Type} (x o : Nat → α) (s m : Nat) {u : (Nat → α) → Nat → α → Nat → α} (hu : ∀ g k w q, u g k w q = if q = k then w else g q) : u (brA x o s m) m (o (40 * s + m)) = brA x o s (m + 1) := by
  funext q
  rw [hu]
  unfold brA
  by_cases z : q = m
  · subst z
    rw [if_pos rfl, if_pos (by omega)]
  · rw [if_neg z]
    by_cases y : q < m
    · rw [if_pos y, if_pos (by omega)]
    · rw [if_neg y, if_neg (by omega)]
theorem brA_0 {α : Type} (x o : Nat → α) (s : Nat) : brA x o s 0 = x := by
  funext q
  unfold brA
  rw [if_neg (by omega)]
theorem s_Mo_bring {σ : Mem} {A : Pg} {s : Nat} (h : atS σ s A) (hn : A.1 ≤ 40) (hs : s < 33) : ∃ σ', f_Mo_bring (nI s) σ = some ((), σ') ∧ fr mRo σ σ' ∧ atM σ' A ∧ σ'.1 15 12 = 0 ∧ σ'.1 15 16 = 0 ∧ ∀ q, q ≠ 0 → q ≠ 1 → q ≠ 12 → q ≠ 16 → σ'.1 15 q = σ.1 15 q := by
  obtain ⟨n, c, K, F, T⟩ := A
  have hn : n ≤ 40 := hn
  have hz : σ.1 19 s = nI n := h.1
  have hcu : σ.1 20 s = nI c := h.2.1
  obtain ⟨O, hO⟩ : ∃ O, O = upd (upd (σ.1 15) 0 (nI n)) 1 (nI c) := ⟨_, rfl⟩
  have hO0 : O 0 = nI n := by rw [hO, pk_un (by decide), pk_us]
  have key : ∀ (d m : Nat) (σ1 : Mem), m + d = n → fr mRo σ σ1 → σ1.1 15 = O → rawM σ1 (brA (σ.1 16) (σ.1 21) s m) (brA (σ.1 17) (σ.1 22) s m) (brA (σ.2 18) (σ.2 23) s m) → ∃ σ', loopF (fun (q : (Int32 × Mem)) => f_Mo_bring_L22 (nI s) q.1 q.2) (d + 1) (nI m, σ1) = some ((), σ') ∧ fr mRo σ σ' ∧ σ'.1 15 = upd (upd O 12 0) 16 0 ∧ rawM σ' (brA (σ.1 16) (σ.1 21) s n) (brA (σ.1 17) (σ.1 22) s n) (brA (σ.2 18) (σ.2 23) s n) := by
    intro d
    induction d with
    | zero =>
      intro m σ1 hm g1 o1 h1
      obtain rfl : m = n := by omega
      refine ⟨rI (rI σ1 15 (upd O 12 0)) 15 (upd (upd O 12 0) 16 0), lp_exit ?_, fr_tr (fr_tr g1 (fr_rI _ _ (Or.inl rfl))) (fr_rI _ _ (Or.inl rfl)), rI_at _ _ _, rawM_o (rawM_o h1 _) _⟩
      show f_Mo_bring_L22 (nI s) (nI m) σ1 = _
      unfold f_Mo_bring_L22
      simp only [lt_]
      rw [o1, hO0, if_pos ((nIle (by omega) (by omega)).mpr (Nat.le_refl _))]
      unfold sI
      rw [rI_at, o1]
      rfl
    | succ d ih =>
      intro m σ1 hm g1 o1 h1
      have s21 : σ1.1 21 = σ.1 21 := (g1 21 (by unfold mRo; omega)).1
      obtain ⟨σ2, hσ2⟩ : ∃ x, x = rI σ1 16 (brA (σ.1 16) (σ.1 21) s (m + 1)) := ⟨_, rfl⟩
      have h2 := rawM_k h1 (brA (σ.1 16) (σ.1 21) s (m + 1))
      have g2 : fr mRo σ (rI σ1 16 (brA (σ.1 16) (σ.1 21) s (m + 1))) := fr_tr g1 (fr_rI _ _ (Or.inr (Or.inl rfl)))
      have o2 : (rI σ1 16 (brA (σ.1 16) (σ.1 21) s (m + 1))).1 15 = O := by rw [rI_ne (by decide)]; exact o1
      rw [← hσ2] at h2 g2 o2
      obtain ⟨σ3, hσ3⟩ : ∃ x, x = rI σ2 17 (brA (σ.1 17) (σ.1 22) s (m + 1)) := ⟨_, rfl⟩
      have h3 := rawM_f h2 (brA (σ.1 17) (σ.1 22) s (m + 1))
      have g3 : fr mRo σ (rI σ2 17 (brA (σ.1 17) (σ.1 22) s (m + 1))) := fr_tr g2 (fr_rI _ _ (Or.inr (Or.inr (Or.inl rfl))))
      have o3 : (rI σ2 17 (brA (σ.1 17) (σ.1 22) s (m + 1))).1 15 = O := by rw [rI_ne (by decide)]; exact o2
      rw [← hσ3] at h3 g3 o3
      obtain ⟨σ4, hσ4⟩ : ∃ x, x = rL σ3 18 (brA (σ.2 18) (σ.2 23) s (m + 1)) := ⟨_, rfl⟩
      have h4 := rawM_t h3 (brA (σ.2 18) (σ.2 23) s (m + 1))
      have g4 : fr mRo σ (rL σ3 18 (brA (σ.2 18) (σ.2 23) s (m + 1))) := fr_tr g3 (fr_rL _ _ (Or.inr (Or.inr (Or.inr rfl))))
      have o4 : (rL σ3 18 (brA (σ.2 18) (σ.2 23) s (m + 1))).1 15 = O := o3
      rw [← hσ4] at h4 g4 o4
      obtain ⟨σ', i1, i2, i3⟩ := ih (m + 1) σ4 (by omega) g4 o4 h4
      refine ⟨σ', lp_step (b := (nI (m + 1), σ4)) ?_ i1, i2, i3⟩
      show f_Mo_bring_L22 (nI s) (nI m) σ1 = _
      unfold f_Mo_bring_L22
      rw [o1, hO0, if_neg (fun q => by have := (nIle (by omega) (by omega)).mp q; omega), n40]
      simp only [lt_]
      have ok1 : inb (nI m) 48 = true := inb_nI (by omega) (by decide)
      have ok2 : inb (nI (40 * s + m)) 1320 = true := inb_nI (by omega) (by decide)
      rw [gd_t ok2, gd_t ok1, gd_t ok2, gd_t ok1, gd_t ok2, gd_t ok1, nI_clamp (by omega), nI_clamp (by omega)]
      unfold sI sL
      rw [h1.1, s21, brA_s (σ.1 16) (σ.1 21) s m (u := upd) (fun _ _ _ _ => rfl), ← hσ2, h2.2.1, (g2 22 (by unfold mRo; omega)).1, brA_s (σ.1 17) (σ.1 22) s m (u := upd) (fun _ _ _ _ => rfl), ← hσ3, h3.2.2, (g3 23 (by unfold mRo; omega)).2, brA_s (σ.2 18) (σ.2 23) s m (u := vp_updL) (fun _ _ _ _ => rfl), ← hσ4, nI_1]
  obtain ⟨σ1, hσ1⟩ : ∃ x, x = rI σ 15 (upd (σ.1 15) 0 (nI n)) := ⟨_, rfl⟩
  have g1 : fr mRo σ (rI σ 15 (upd (σ.1 15) 0 (nI n))) := fr_rI _ _ (Or.inl rfl)
  have o1 : (rI σ 15 (upd (σ.1 15) 0 (nI n))).1 15 = upd (σ.1 15) 0 (nI n) := rI_at _ _ _
  have h0 : rawM σ (σ.1 16) (σ.1 17) (σ.2 18) := ⟨rfl, rfl, rfl⟩
  have h1 := rawM_o h0 (upd (σ.1 15) 0 (nI n))
  rw [← hσ1] at g1 o1 h1
  obtain ⟨σ2, hσ2⟩ : ∃ x, x = rI σ1 15 O := ⟨_, rfl⟩
  have g2 : fr mRo σ (rI σ1 15 O) := fr_tr g1 (fr_rI _ _ (Or.inl rfl))
  have o2 : (rI σ1 15 O).1 15 = O := rI_at _ _ _
  have h2 := rawM_o h1 O
  rw [← hσ2] at g2 o2 h2
  obtain ⟨σ', i1, i2, i3, i4⟩ := key n 0 σ2 (by omega) g2 o2 (by rw [brA_0, brA_0, brA_0]; exact h2)
  refine ⟨σ', ?_, i2, ⟨?_, ?_, fun j hj => ?_⟩, ?_, ?_, fun q q0 q1 q12 q16 => ?_⟩
  · unfold f_Mo_bring
    simp only [lt_]
    rw [gd_t (inb_nI hs (by decide)), gd_t (inb_nI hs (by decide)), nI_clamp (by omega), hz]
    unfold sI
    rw [← hσ1, (g1 20 (by unfold mRo; omega)).1, hcu, o1, ← hO, ← hσ2]
    exact lp_FU i1 (by omega)
  · show σ'.1 15 0 = nI n
    rw [i3, pk_un (by decide), pk_un (by decide), hO0]
  · show σ'.1 15 1 = nI c
    rw [i3, pk_un (by decide), pk_un (by decide), hO, pk_us]
  · have hj : j < n := hj
    rw [i4.1, i4.2.1, i4.2.2]
    unfold brA
    rw [if_pos hj, if_pos hj, if_pos hj]
    exact h.2.2 j hj
  · rw [i3, pk_un (by decide), pk_us]
  · rw [i3, pk_us]
  · rw [i3, pk_un q16, pk_un q12, hO, pk_un q1, pk_un q0]
