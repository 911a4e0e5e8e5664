/-! both sides' histories; an edit that is taken, an edit that is refused -/
def CV (σ : Mem) (A : Pg) (p kp pb ch : Nat) (Hs Ps : Nat → Pg) : Prop := p < 17 ∧ kp + pb ≤ 16 ∧ atH σ p kp pb ch ∧ atC σ p A ∧ (∀ j, j < kp → atC σ ((p + 17 - kp + j) % 17) (Hs j)) ∧ ∀ j, j < pb → atC σ ((p + pb - j) % 17) (Ps j)
def MV (σ : Mem) (A : Pg) (kp pb : Nat) (Hs Ps : Nat → Pg) : Prop := atM σ A ∧ σ.1 15 5 = nI kp ∧ σ.1 15 6 = nI pb ∧ (∀ j, j < kp → atS σ j (Hs j)) ∧ ∀ j, j < pb → atS σ (16 + j) (Ps j)
def oks (A : Pg) (kp pb : Nat) (Hs Ps : Nat → Pg) : Prop := okP A ∧ (∀ j, j < kp → okP (Hs j)) ∧ ∀ j, j < pb → okP (Ps j)
def push (kp : Nat) (Hs : Nat → Pg) (A : Pg) : Nat → Pg := fun j => if kp < 16 then (if j = kp then A else Hs j) else (if j = 15 then A else Hs (j + 1))
/-- cells of the class's programs and history; of the reference's programs -/
def cE (c : Nat) : Prop := c = 1 ∨ 44 ≤ c
def mE (c : Nat) : Prop := 15 ≤ c ∧ c ≤ 23
theorem oks_push {A A' : Pg} {kp pb : Nat} {Hs Ps : Nat → Pg} (h : oks A kp pb Hs Ps) (hk : kp ≤ 16) (hA : okP A') : oks A' (min (kp + 1) 16) 0 (push kp Hs A) Ps := by
  refine ⟨hA, fun j hj => ?_, fun j hj => by omega⟩
  unfold push
  by_cases q : kp < 16
  · rw [if_pos q]
    by_cases z : j = kp
    · rw [if_pos z]; exact h.1
    · rw [if_neg z]; exact h.2.1 j (by omega)
  · rw [if_neg q]
    by_cases z : j = 15
    · rw [if_pos z]; exact h.1
    · rw [if_neg z]; exact h.2.1 (j + 1) (by omega)
theorem CV_edit {σ : Mem} {A A' : Pg} {p kp pb ch : Nat} {Hs Ps : Nat → Pg} (h : CV σ A p kp pb ch Hs Ps) (hn : A.1 ≤ 40) (hch : ch < 1000) {op : Nat → Mem → Option (Unit × Mem)} (hop : ∀ σ1, atC σ1 ((p + 1) % 17) A → ∃ σ2, op ((p + 1) % 17) σ1 = some ((), σ2) ∧ fr (isP ((p + 1) % 17)) σ1 σ2 ∧ atC σ2 ((p + 1) % 17) A') : ∃ σ1 σ2, f_Hi_keep σ = some ((p + 1) % 17, σ1) ∧ op ((p + 1) % 17) σ1 = some ((), σ2) ∧ fr cE σ σ2 ∧ CV σ2 A' ((p + 1) % 17) (min (kp + 1) 16) 0 (ch + 1) (push kp Hs A) Ps := by
  obtain ⟨h1, h2, h3, h4, h5, h6⟩ := h
  obtain ⟨σ1, a1, a2, a3, a4⟩ := s_Hi_keep h3 h1 (by omega) hch h4 hn
  obtain ⟨σ2, b1, b2, b3⟩ := hop σ1 a4
  have hq : (p + 1) % 17 < 17 := Nat.mod_lt _ (by decide)
  have g : fr (fun c => c = 1 ∨ isP ((p + 1) % 17) c) σ σ2 := fr_tr a2 (fr_mono b2 (fun c q => Or.inr q))
  have keepC : ∀ {r : Nat} {B : Pg}, r ≠ (p + 1) % 17 → atC σ r B → atC σ2 r B := fun hr hB => atC_fr hB g (fun c hc q => by
    rcases q with rfl | q
    · have := isP_ge hc; omega
    · exact isP_ne hr.symm hc q)
  refine ⟨σ1, σ2, a1, b1, fr_mono g (fun c q => by
    rcases q with q | q
    · exact Or.inl q
    · exact Or.inr (isP_ge q)), hq, by omega, ?_, b3, fun j hj => ?_, fun j hj => by omega⟩
  · unfold atH
    rw [(b2 1 (fun q => by have := isP_ge q; omega)).1]
    exact a3
  · unfold push
    by_cases z : kp < 16
    · rw [if_pos z]
      have em : min (kp + 1) 16 = kp + 1 := by omega
      rw [em] at hj ⊢
      by_cases y : j = kp
      · rw [if_pos y]
        have e1 : ((p + 1) % 17 + 17 - (kp + 1) + j) % 17 = p := by omega
        rw [e1]
        exact keepC (by omega) h4
      · rw [if_neg y]
        have e1 : ((p + 1) % 17 + 17 - (kp + 1) + j) % 17 = (p + 17 - kp + j) % 17 := by omega
        rw [e1]
        exact keepC (by omega) (h5 j (by omega))
    · rw [if_neg z]
      have em : min (kp + 1) 16 = 16 := by omega
      have ek : kp = 16 := by omega
      rw [em] at hj ⊢
      by_cases y : j = 15
      · rw [if_pos y]
        have e1 : ((p + 1) % 17 + 17 - 16 + j) % 17 = p := by omega
        rw [e1]
        exact keepC (by omega) h4
      · rw [if_neg y]
        have e1 : ((p + 1) % 17 + 17 - 16 + j) % 17 = (p + 17 - kp + (j + 1)) % 17 := by omega
        rw [e1]
        exact keepC (by omega) (h5 (j + 1) (by omega))
/-- the reference: begun, its rows changed; then done -/
def begun (σ σ3 : Mem) (A : Pg) (n' : Nat) (K' F' : Nat → Int32) (T' : Nat → Int64) : Prop := fr mE σ σ3 ∧ atS σ3 32 A ∧ (∀ s, s < 32 → slE s σ σ3) ∧ σ3.1 15 0 = nI n' ∧ (∀ q, q ≠ 0 → σ3.1 15 q = σ.1 15 q) ∧ rr n' (σ3.1 16) (σ3.1 17) (σ3.2 18) K' F' T'
theorem mE_o {c : Nat} (h : mRo c) : mE c := by unfold mRo at h; unfold mE; omega
theorem mE_s {c : Nat} (h : mSo c) : mE c := by unfold mSo mS at h; unfold mE; omega
theorem MV_yes {σ σ3 : Mem} {A : Pg} {kp pb n' to : Nat} {Hs Ps : Nat → Pg} {K' F' : Nat → Int32} {T' : Nat → Int64} (h : MV σ A kp pb Hs Ps) (ho : oks A kp pb Hs Ps) (hkp : kp ≤ 16) (hb : begun σ σ3 A n' K' F' T') (hn : n' ≤ 40) (hw : wf K' n') (hd : ∀ j, j < n' → dp K' j < 12) : ∃ σ4, f_Mo_done (nI to) σ3 = some (1, σ4) ∧ fr mE σ σ4 ∧ MV σ4 (n', to, K', F', T') (min (kp + 1) 16) 0 (push kp Hs A) Ps ∧ σ4.1 15 12 = 0 ∧ σ4.1 15 16 = 0 ∧ ∀ q, q ≠ 0 → q ≠ 5 → q ≠ 6 → q ≠ 1 → q ≠ 12 → q ≠ 16 → σ4.1 15 q = σ.1 15 q := by
  obtain ⟨b1, b2, b3, b4, b5, b6⟩ := hb
  obtain ⟨h1, h2, h3, h4, h5⟩ := h
  obtain ⟨σ4, c1, c2, c3, c4, c5, c6, c7, c8, c9⟩ := s_done_fits hn b4 (fun j hj => (b6 j hj).1) hw hd hkp (by rw [b5 5 (by decide)]; exact h2) (nI to)
  refine ⟨σ4, c1, fr_tr b1 (fr_mono c2 (fun c q => mE_s q)), ⟨⟨?_, c6, ?_⟩, c4, c5, fun j hj => ?_, fun j hj => by omega⟩, c7, c8, fun q q0 q5 q6 q1 q12 q16 => (c9 q q5 q6 q1 q12 q16).trans (b5 q q0)⟩
  · show σ4.1 15 0 = nI n'
    rw [c9 0 (by decide) (by decide) (by decide) (by decide) (by decide)]
    exact b4
  · show rr n' (σ4.1 16) (σ4.1 17) (σ4.2 18) K' F' T'
    rw [(c2 16 (by unfold mSo mS; omega)).1, (c2 17 (by unfold mSo mS; omega)).1, (c2 18 (by unfold mSo mS; omega)).2]
    exact b6
  · unfold push
    by_cases z : kp < 16
    · rw [if_pos z]
      obtain ⟨t1, t2⟩ := c3.1 z
      by_cases y : j = kp
      · rw [if_pos y, y]
        exact atS_slT b2 ho.1.2.1 t1
      · rw [if_neg y]
        exact atS_sl (atS_sl (h4 j (by omega)) (ho.2.1 j (by omega)).2.1 (b3 j (by omega))) (ho.2.1 j (by omega)).2.1 (t2 j (by omega))
    · rw [if_neg z]
      obtain ⟨t1, t2⟩ := c3.2 (by omega)
      by_cases y : j = 15
      · rw [if_pos y, y]
        exact atS_slT b2 ho.1.2.1 t1
      · rw [if_neg y]
        exact atS_slT (atS_sl (h4 (j + 1) (by omega)) (ho.2.1 (j + 1) (by omega)).2.1 (b3 (j + 1) (by omega))) (ho.2.1 (j + 1) (by omega)).2.1 (t2 j (by omega))
theorem MV_no {σ σ3 : Mem} {A : Pg} {kp pb n' : Nat} {Hs Ps : Nat → Pg} {K' F' : Nat → Int32} {T' : Nat → Int64} (to : Int32) (h : MV σ A kp pb Hs Ps) (ho : oks A kp pb Hs Ps) (hkp : kp + pb ≤ 16) (hb : begun σ σ3 A n' K' F' T') (hn : n' ≤ 48) (hw : wf K' n') (hd : ¬ (n' ≤ 40 ∧ ∀ j, j < n' → dp K' j < 12)) : ∃ σ4, f_Mo_done to σ3 = some (0, σ4) ∧ fr mE σ σ4 ∧ MV σ4 A kp pb Hs Ps ∧ σ4.1 15 12 = 0 ∧ σ4.1 15 16 = 0 ∧ ∀ q, q ≠ 0 → q ≠ 1 → q ≠ 12 → q ≠ 16 → σ4.1 15 q = σ.1 15 q := by
  obtain ⟨b1, b2, b3, b4, b5, b6⟩ := hb
  obtain ⟨h1, h2, h3, h4, h5⟩ := h
  obtain ⟨σ4, c1, c2, c3, c4, c5, c6⟩ := s_done_no hn b4 (fun j hj => (b6 j hj).1) hw hd b2 ho.1.2.1 to
  have sE : ∀ s, slE s σ3 σ4 := fun s => slE_fr c2 (fun c hc => by unfold mS at hc; unfold mRo; omega)
  have c6' : ∀ q, q ≠ 0 → q ≠ 1 → q ≠ 12 → q ≠ 16 → σ4.1 15 q = σ.1 15 q := fun q q0 q1 q12 q16 => (c6 q q0 q1 q12 q16).trans (b5 q q0)
  refine ⟨σ4, c1, fr_tr b1 (fr_mono c2 (fun c q => mE_o q)), ⟨c3, ?_, ?_, fun j hj => ?_, fun j hj => ?_⟩, c4, c5, c6'⟩
  · rw [c6' 5 (by decide) (by decide) (by decide) (by decide)]; exact h2
  · rw [c6' 6 (by decide) (by decide) (by decide) (by decide)]; exact h3
  · exact atS_sl (h4 j hj) (ho.2.1 j hj).2.1 (slE_tr (b3 j (by omega)) (sE j))
  · exact atS_sl (h5 j hj) (ho.2.2 j hj).2.1 (slE_tr (b3 (16 + j) (by omega)) (sE (16 + j)))
theorem s_Mo_begin {σ : Mem} {A : Pg} (h : atM σ A) (hn : A.1 ≤ 40) : ∃ σ1, f_Mo_begin σ = some ((), σ1) ∧ begun σ σ1 A A.1 A.2.2.1 A.2.2.2.1 A.2.2.2.2 := by
  obtain ⟨σ1, a1, a2, a3, a4⟩ := s_Mo_save (s := 32) h hn (by decide)
  refine ⟨σ1, ?_, fr_mono a2 (fun c q => mE_s (Or.inr q)), a3, fun s hs => a4 s (by omega), ?_, fun q _ => ?_, ?_⟩
  · unfold f_Mo_begin
    have l32 : (32 : Int32) = nI 32 := rfl
    rw [l32, a1, bn_q]
  · rw [(a2 15 (by unfold mS; omega)).1]; exact h.1
  · rw [(a2 15 (by unfold mS; omega)).1]
  · rw [(a2 16 (by unfold mS; omega)).1, (a2 17 (by unfold mS; omega)).1, (a2 18 (by unfold mS; omega)).2]
    exact h.2.2
/-- a change of the rows behind begin -/
theorem begun_tr {σ σ1 σ2 : Mem} {A : Pg} {n n' : Nat} {K F K' F' : Nat → Int32} {T T' : Nat → Int64} (h : begun σ σ1 A n K F T) (hA : A.1 ≤ 40) (hf : fr mRo σ1 σ2) (h0 : σ2.1 15 0 = nI n') (hq : ∀ q, q ≠ 0 → σ2.1 15 q = σ1.1 15 q) (hr : rr n' (σ2.1 16) (σ2.1 17) (σ2.2 18) K' F' T') : begun σ σ2 A n' K' F' T' := by
  obtain ⟨b1, b2, b3, b4, b5, b6⟩ := h
  have sE : ∀ s, slE s σ1 σ2 := fun s => slE_fr hf (fun c hc => by unfold mS at hc; unfold mRo; omega)
  exact ⟨fr_tr b1 (fr_mono hf (fun c q => mE_o q)), atS_sl b2 hA (sE 32), fun s hs => slE_tr (b3 s hs) (sE s), h0, fun q hq0 => (hq q hq0).trans (b5 q hq0), hr⟩
theorem begun_ins {σ σ1 : Mem} {A : Pg} {n : Nat} {K F : Nat → Int32} {T : Nat → Int64} (h : begun σ σ1 A n K F T) (hA : A.1 ≤ 40) {a : Nat} (ha : a ≤ n) (hn : n + 1 ≤ 48) (x y : Int32) (z : Int64) : ∃ σ2, f_Mo_insert (nI a) x y z σ1 = some ((), σ2) ∧ begun σ σ2 A (n + 1) (insF K a x) (insF F a y) (insF T a z) := by
  obtain ⟨σ2, k', f', t', a1, a2, a3, a4, a5⟩ := s_Mo_insert (σ := σ1) ⟨rfl, rfl, rfl⟩ h.2.2.2.1 ha hn x y z
  refine ⟨σ2, a1, begun_tr h hA a2 (by rw [a3, pk_us]) (fun q hq => by rw [a3, pk_un hq]) ?_⟩
  rw [a4.1, a4.2.1, a4.2.2]
  exact rr_of (rr_ins h.2.2.2.2.2 ha x y z) (fun j hj => (a5 j hj).1) (fun j hj _ => (a5 j hj).2.1) (fun j hj _ => (a5 j hj).2.2)
