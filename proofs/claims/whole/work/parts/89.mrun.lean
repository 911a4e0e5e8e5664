/-! the reference runs a term: single turns -/
def mRn (c : Nat) : Prop := c = 15 ∨ 33 ≤ c ∧ c ≤ 43
def o15 (q : Nat) : Prop := q = 24 ∨ q = 26 ∨ q = 33 ∨ q = 34 ∨ q = 35 ∨ q = 36
def FM (r : Nat) (σ σ' : Mem) : Prop := fr mRn σ σ' ∧ (∀ q, ¬ o15 q → σ'.1 15 q = σ.1 15 q) ∧ ∀ c, 33 ≤ c → c ≤ 38 → ∀ q, q < r → σ'.1 c q = σ.1 c q
theorem FM_rf (r : Nat) (σ : Mem) : FM r σ σ := ⟨fr_rf _ _, fun _ _ => rfl, fun _ _ _ _ _ => rfl⟩
theorem FM_tr {r : Nat} {a b c : Mem} (h1 : FM r a b) (h2 : FM r b c) : FM r a c := ⟨fr_tr h1.1 h2.1, fun q hq => (h2.2.1 q hq).trans (h1.2.1 q hq), fun x y z q hq => (h2.2.2 x y z q hq).trans (h1.2.2 x y z q hq)⟩
theorem FM_le {r r' : Nat} {a b : Mem} (h : FM r' a b) (hr : r ≤ r') : FM r a b := ⟨h.1, h.2.1, fun x y z q hq => h.2.2 x y z q (by omega)⟩
theorem FM_15 (r : Nat) (σ : Mem) {q : Nat} (v : Int32) (hq : o15 q) : FM r σ (sI σ 15 q v) := ⟨fr_rI _ _ (Or.inl rfl), fun x hx => by rw [rI_at, pk_un (show x ≠ q from fun z => hx (by rw [z]; exact hq))], fun c h1 h2 x _ => by rw [rI_ne (by omega)]⟩
theorem FM_c {r : Nat} (σ : Mem) {c q : Nat} (v : Int32) (h1 : 33 ≤ c) (h2 : c ≤ 38) (hq : r ≤ q) : FM r σ (sI σ c q v) := ⟨fr_rI _ _ (Or.inr (by omega)), fun x _ => by rw [rI_ne (by omega)], fun d d1 d2 x hx => by
  by_cases z : d = c
  · rw [z, rI_at, pk_un (by omega)]
  · rw [rI_ne z]⟩
theorem FM_b (r : Nat) (σ : Mem) {c : Nat} (q : Nat) (v : Int32) (h1 : 39 ≤ c) (h2 : c ≤ 43) : FM r σ (sI σ c q v) := ⟨fr_rI _ _ (Or.inr (by omega)), fun x _ => by rw [rI_ne (by omega)], fun d d1 d2 x hx => by rw [rI_ne (by omega)]⟩
def RepM (σ : Mem) (s : Sr) : Prop := σ.1 15 24 = nI s.1 ∧ σ.1 15 36 = nI s.2.1 ∧ ∀ j, 1 ≤ j → j ≤ s.2.1 → σ.1 39 j = s.2.2.1 j ∧ σ.1 40 j = nI (s.2.2.2.1 j).1 ∧ σ.1 41 j = (s.2.2.2.1 j).2.1 ∧ σ.1 42 j = nI (s.2.2.2.1 j).2.2 ∧ σ.1 43 j = nI (s.2.2.2.2 j)
def VR (σ : Mem) (v : Vl) : Prop := σ.1 15 33 = nI v.1 ∧ σ.1 15 34 = v.2.1 ∧ σ.1 15 35 = nI v.2.2
theorem RepM_eq {σ σ' : Mem} {s : Sr} (h : RepM σ s) (h1 : σ'.1 15 24 = σ.1 15 24) (h2 : σ'.1 15 36 = σ.1 15 36) (h3 : ∀ c, 39 ≤ c → c ≤ 43 → σ'.1 c = σ.1 c) : RepM σ' s := by
  unfold RepM
  rw [h1, h2, h3 39 (by decide) (by decide), h3 40 (by decide) (by decide), h3 41 (by decide) (by decide), h3 42 (by decide) (by decide), h3 43 (by decide) (by decide)]
  exact h
theorem RepM_15 {σ : Mem} {s : Sr} (h : RepM σ s) {q : Nat} (v : Int32) (h1 : q ≠ 24) (h2 : q ≠ 36) : RepM (sI σ 15 q v) s := RepM_eq h (by rw [rI_at, pk_un (Ne.symm h1)]) (by rw [rI_at, pk_un (Ne.symm h2)]) (fun c _ _ => by rw [rI_ne (by omega)])
theorem RepM_c {σ : Mem} {s : Sr} (h : RepM σ s) {c : Nat} (q : Nat) (v : Int32) (h1 : 33 ≤ c) (h2 : c ≤ 38) : RepM (sI σ c q v) s := RepM_eq h (by rw [rI_ne (by omega)]) (by rw [rI_ne (by omega)]) (fun d _ _ => by rw [rI_ne (by omega)])
def vS (σ : Mem) (v : Vl) : Mem := sI (sI (sI σ 15 33 (nI v.1)) 15 34 v.2.1) 15 35 (nI v.2.2)
theorem vS_15 (σ : Mem) (v : Vl) : (vS σ v).1 15 = upd (upd (upd (σ.1 15) 33 (nI v.1)) 34 v.2.1) 35 (nI v.2.2) := by
  unfold vS
  rw [rI_at, rI_at, rI_at]
theorem vS_c (σ : Mem) (v : Vl) {c : Nat} (h : c ≠ 15) : (vS σ v).1 c = σ.1 c := by
  unfold vS
  rw [rI_ne h, rI_ne h, rI_ne h]
theorem vS_q (σ : Mem) (v : Vl) {q : Nat} (h1 : q ≠ 33) (h2 : q ≠ 34) (h3 : q ≠ 35) : (vS σ v).1 15 q = σ.1 15 q := by rw [vS_15, pk_un h3, pk_un h2, pk_un h1]
theorem vS_VR (σ : Mem) (v : Vl) : VR (vS σ v) v := ⟨by rw [vS_15, pk_un (by decide), pk_un (by decide), pk_us], by rw [vS_15, pk_un (by decide), pk_us], by rw [vS_15, pk_us]⟩
theorem vS_FM (r : Nat) (σ : Mem) (v : Vl) : FM r σ (vS σ v) := FM_tr (FM_tr (FM_15 r σ _ (by unfold o15; omega)) (FM_15 r _ _ (by unfold o15; omega))) (FM_15 r _ _ (by unfold o15; omega))
theorem vS_Rep {σ : Mem} {s : Sr} (h : RepM σ s) (v : Vl) : RepM (vS σ v) s := RepM_15 (RepM_15 (RepM_15 h _ (by decide) (by decide)) _ (by decide) (by decide)) _ (by decide) (by decide)
theorem s_val (σ : Mem) (v : Vl) : f_Mo_value (nI v.1) v.2.1 (nI v.2.2) σ = some ((), vS σ v) := by
  unfold f_Mo_value vS
  rw [lt_q, lt_q, lt_q]
theorem s_vdark (σ : Mem) : f_Mo_value 2 0 0 σ = some ((), vS σ (2, 0, 0)) := s_val σ (2, 0, 0)
def MRm (n : Nat) (K F : Nat → Int32) (T : Nat → Int64) (M : Nat → Int32) (σ : Mem) : Prop := rowM σ n K F T ∧ ∀ j, j < n → σ.1 26 j = M j
section MRUN
variable {n : Nat} {K F M : Nat → Int32} {T : Nat → Int64}
theorem MRm_F {r : Nat} {σ σ' : Mem} (h : MRm n K F T M σ) (hf : FM r σ σ') : MRm n K F T M σ' := by
  have g : ∀ c, 16 ≤ c → c ≤ 26 → σ'.1 c = σ.1 c ∧ σ'.2 c = σ.2 c := fun c a b => hf.1 c (by unfold mRn; omega)
  unfold MRm rowM
  rw [(g 16 (by decide) (by decide)).1, (g 17 (by decide) (by decide)).1, (g 18 (by decide) (by decide)).2, (g 26 (by decide) (by decide)).1]
  exact h
/-- the frame on top -/
def Top (r a c : Nat) (σ : Mem) : Prop := σ.1 33 r = nI a ∧ σ.1 35 r = nI c ∧ σ.1 15 26 = nI (r + 1)
theorem s_enter {σ : Mem} {s : Sr} {r : Nat} (hr : r < 60) (h26 : σ.1 15 26 = nI r) (hR : RepM σ s) (h4 : s.1 < 400) (a c : Nat) : ∃ σ', f_Mo_enter (nI a) (nI c) σ = some (1, σ') ∧ FM r σ σ' ∧ RepM σ' (tick s) ∧ Top r a c σ' ∧ σ'.1 34 r = 0 := by
  obtain ⟨σ1, e1⟩ : ∃ y, y = sI σ 15 24 (nI (s.1 + 1)) := ⟨_, rfl⟩
  obtain ⟨σ2, e2⟩ : ∃ y, y = sI σ1 33 r (nI a) := ⟨_, rfl⟩
  obtain ⟨σ3, e3⟩ : ∃ y, y = sI σ2 34 r 0 := ⟨_, rfl⟩
  obtain ⟨σ4, e4⟩ : ∃ y, y = sI σ3 35 r (nI c) := ⟨_, rfl⟩
  obtain ⟨σ5, e5⟩ : ∃ y, y = sI σ4 15 26 (nI (r + 1)) := ⟨_, rfl⟩
  have c1 : σ1.1 15 = upd (σ.1 15) 24 (nI (s.1 + 1)) := by rw [e1, rI_at]
  have c2 : σ2.1 15 = σ1.1 15 := by rw [e2, rI_ne (by decide)]
  have c3 : σ3.1 15 = σ1.1 15 := by rw [e3, rI_ne (by decide), c2]
  have c4 : σ4.1 15 = σ1.1 15 := by rw [e4, rI_ne (by decide), c3]
  have b1 : σ1.1 15 26 = nI r := by rw [c1, pk_un (by decide), h26]
  have c5 : σ5.1 15 = upd (upd (σ.1 15) 24 (nI (s.1 + 1))) 26 (nI (r + 1)) := by rw [e5, rI_at, c4, c1]
  refine ⟨σ5, ?_, ?_, ⟨?_, ?_, fun j j1 j2 => ?_⟩, ⟨?_, ?_, ?_⟩, ?_⟩
  · unfold f_Mo_enter
    rw [h26, if_neg (fun z => by have := (nI_eq (b := 60) (by omega) (by decide)).mp z; omega), hR.1, if_neg (fun z => by have := (nI_eq (b := 400) (by omega) (by decide)).mp z; omega), nI_1, ← e1, lt_q, b1, gd_t (inb_nI (by omega) (by decide)), nI_cl (by omega), ← e2, lt_q, c2, b1, gd_t (inb_nI (by omega) (by decide)), nI_cl (by omega), ← e3, lt_q, c3, b1, gd_t (inb_nI (by omega) (by decide)), nI_cl (by omega), ← e4, lt_q, c4, b1, nI_1, ← e5, lt_q]
  · rw [e5, e4, e3, e2, e1]
    exact FM_tr (FM_tr (FM_tr (FM_tr (FM_15 r σ _ (by unfold o15; omega)) (FM_c _ _ (by decide) (by decide) (Nat.le_refl _))) (FM_c _ _ (by decide) (by decide) (Nat.le_refl _))) (FM_c _ _ (by decide) (by decide) (Nat.le_refl _))) (FM_15 r _ _ (by unfold o15; omega))
  · rw [c5, pk_un (by decide), pk_us]; rfl
  · rw [c5, pk_un (by decide), pk_un (by decide)]; exact hR.2.1
  · have g : ∀ c, 39 ≤ c → c ≤ 43 → σ5.1 c = σ.1 c := fun c h1 h2 => by rw [e5, rI_ne (by omega), e4, rI_ne (by omega), e3, rI_ne (by omega), e2, rI_ne (by omega), e1, rI_ne (by omega)]
    rw [g 39 (by decide) (by decide), g 40 (by decide) (by decide), g 41 (by decide) (by decide), g 42 (by decide) (by decide), g 43 (by decide) (by decide)]
    exact hR.2.2 j j1 j2
  · rw [e5, rI_ne (by decide), e4, rI_ne (by decide), e3, rI_ne (by decide), e2, rI_at, pk_us]
  · rw [e5, rI_ne (by decide), e4, rI_at, pk_us]
  · rw [c5, pk_us]
  · rw [e5, rI_ne (by decide), e4, rI_ne (by decide), e3, rI_at, pk_us]
theorem s_enter_no {σ : Mem} {s : Sr} {r : Nat} (hr : r ≤ 60) (h26 : σ.1 15 26 = nI r) (hR : RepM σ s) (h : r = 60 ∨ s.1 = 400) (a c : Nat) : f_Mo_enter (nI a) (nI c) σ = some (0, σ) := by
  unfold f_Mo_enter f_Mo_enter_J19
  rw [h26, hR.1]
  rcases h with h | h
  · rw [h, if_pos (show nI 60 = 60 from rfl)]
  · rw [h, if_pos (show nI 400 = 400 from rfl)]
    exact ite_self _
theorem s_look {σ : Mem} {s : Sr} (hs : sS n K s) (hB : s.2.1 ≤ 400) (hR : RepM σ s) (x y : Int32) : ∀ (d e c : Nat), d ≤ e → c ≤ s.2.1 → Dp s.2.2.2.2 d c → loopF (fun (q : (Int32 × Mem)) => f_Mo_lookUp_L2 x y q.1 q.2) (d + 1) (nI c, σ) = some ((), vS σ (lk s x e c)) := by
  have z0 : ∀ (m e : Nat), loopF (fun (q : (Int32 × Mem)) => f_Mo_lookUp_L2 x y q.1 q.2) (m + 1) (nI 0, σ) = some ((), vS σ (lk s x e 0)) := fun m e => by
    have el : lk s x e 0 = (2, 0, 0) := by
      cases e with
      | zero => rfl
      | succ e => exact if_pos rfl
    rw [el]
    refine lp_exit ?_
    show f_Mo_lookUp_L2 x y (nI 0) σ = some (.inr ((), vS σ (2, 0, 0)))
    unfold f_Mo_lookUp_L2 f_Mo_lookUp_J26
    rw [if_pos (by decide), if_pos (by decide), s_vdark, bn_q]
    rfl
  intro d
  induction d with
  | zero =>
    intro e c _ hc hd
    have : c = 0 := hd
    rw [this]
    exact z0 0 e
  | succ d ih =>
    intro e c hde hc hd
    by_cases z : c = 0
    · rw [z]; exact z0 (d + 1) e
    obtain ⟨e', rfl⟩ : ∃ e', e = e' + 1 := ⟨e - 1, by omega⟩
    have el : lk s x (e' + 1) c = if c = 0 then (2, 0, 0) else if s.2.2.1 c = x then s.2.2.2.1 c else lk s x e' (s.2.2.2.2 c) := rfl
    rw [el, if_neg z]
    obtain ⟨r1, r2, r3, r4, r5⟩ := hR.2.2 c (by omega) hc
    have gi : inb (nI c) 402 = true := inb_nI (by omega) (by decide)
    have ci : (nI c).toNatClampNeg = c := nI_cl (by omega)
    by_cases y' : s.2.2.1 c = x
    · rw [if_pos y']
      refine lp_exit ?_
      show f_Mo_lookUp_L2 x y (nI c) σ = some (.inr ((), vS σ (s.2.2.2.1 c)))
      unfold f_Mo_lookUp_L2 f_Mo_lookUp_J26
      rw [if_neg (nI_nle (by omega) (by omega)), gd_t gi, ci, r1, if_pos y', if_neg (nI_ne0 (by omega) (by omega)), gd_t gi, gd_t gi, gd_t gi, r2, r3, r4, s_val, bn_q]
      rfl
    · rw [if_neg y']
      have := (hs c (by omega) hc).1
      refine lp_step (b := (nI (s.2.2.2.2 c), σ)) ?_ (ih e' _ (by omega) (by omega) (by
        rcases hd with q | q
        · exact absurd q z
        · exact q))
      show f_Mo_lookUp_L2 x y (nI c) σ = _
      unfold f_Mo_lookUp_L2
      rw [if_neg (nI_nle (by omega) (by omega)), gd_t gi, ci, r1, if_neg y', gd_t gi, r5, lt_q]
theorem s_bindM {σ : Mem} {s : Sr} {r : Nat} (hr : r < 61) (hB : s.2.1 < 400) (hR : RepM σ s) (hn : n ≤ 40) (hM : MRm n K F T M σ) {b o : Nat} {w : Vl} (hb : b < n) (hK : K b = 5) (h37 : σ.1 37 r = nI b) (h38 : σ.1 38 r = nI o) (hv : VR σ w) : ∃ σ', f_Mo_bind (nI r) σ = some (nI (s.2.1 + 1), σ') ∧ RepM σ' (bnd s (F b) w o) ∧ FM 61 σ σ' ∧ σ'.1 15 26 = σ.1 15 26 := by
  obtain ⟨h1, h2, h3⟩ := hR
  obtain ⟨v1, v2, v3⟩ := hv
  obtain ⟨k, ek⟩ : ∃ k, k = s.2.1 + 1 := ⟨_, rfl⟩
  obtain ⟨σ1, e1⟩ : ∃ y, y = sI σ 15 36 (nI k) := ⟨_, rfl⟩
  obtain ⟨σ2, e2⟩ : ∃ y, y = sI σ1 39 k (F b) := ⟨_, rfl⟩
  obtain ⟨σ3, e3⟩ : ∃ y, y = sI σ2 40 k (nI w.1) := ⟨_, rfl⟩
  obtain ⟨σ4, e4⟩ : ∃ y, y = sI σ3 41 k w.2.1 := ⟨_, rfl⟩
  obtain ⟨σ5, e5⟩ : ∃ y, y = sI σ4 42 k (nI w.2.2) := ⟨_, rfl⟩
  obtain ⟨σ6, e6⟩ : ∃ y, y = sI σ5 43 k (nI o) := ⟨_, rfl⟩
  have c1 : σ1.1 15 = upd (σ.1 15) 36 (nI k) := by rw [e1, rI_at]
  have c2 : σ2.1 15 = σ1.1 15 := by rw [e2, rI_ne (by decide)]
  have c3 : σ3.1 15 = σ1.1 15 := by rw [e3, rI_ne (by decide), c2]
  have c4 : σ4.1 15 = σ1.1 15 := by rw [e4, rI_ne (by decide), c3]
  have c5 : σ5.1 15 = σ1.1 15 := by rw [e5, rI_ne (by decide), c4]
  have c6 : σ6.1 15 = σ1.1 15 := by rw [e6, rI_ne (by decide), c5]
  have q36 : σ1.1 15 36 = nI k := by rw [c1, pk_us]
  have q33 : σ1.1 15 33 = nI w.1 := by rw [c1, pk_un (by decide), v1]
  have q34 : σ1.1 15 34 = w.2.1 := by rw [c1, pk_un (by decide), v2]
  have q35 : σ1.1 15 35 = nI w.2.2 := by rw [c1, pk_un (by decide), v3]
  have q37 : σ1.1 37 r = nI b := by rw [e1, rI_ne (by decide), h37]
  have q38 : σ5.1 38 r = nI o := by rw [e5, rI_ne (by decide), e4, rI_ne (by decide), e3, rI_ne (by decide), e2, rI_ne (by decide), e1, rI_ne (by decide), h38]
  have q17 : σ1.1 17 b = F b := by rw [e1, rI_ne (by decide)]; exact (hM.1 b hb).2.1 (Or.inr (Or.inr hK))
  have gk : inb (nI k) 402 = true := inb_nI (by omega) (by decide)
  have ck : (nI k).toNatClampNeg = k := nI_cl (by omega)
  have d39 : σ6.1 39 = upd (σ.1 39) k (F b) := by rw [e6, rI_ne (by decide), e5, rI_ne (by decide), e4, rI_ne (by decide), e3, rI_ne (by decide), e2, rI_at, e1, rI_ne (by decide)]
  have d40 : σ6.1 40 = upd (σ.1 40) k (nI w.1) := by rw [e6, rI_ne (by decide), e5, rI_ne (by decide), e4, rI_ne (by decide), e3, rI_at, e2, rI_ne (by decide), e1, rI_ne (by decide)]
  have d41 : σ6.1 41 = upd (σ.1 41) k w.2.1 := by rw [e6, rI_ne (by decide), e5, rI_ne (by decide), e4, rI_at, e3, rI_ne (by decide), e2, rI_ne (by decide), e1, rI_ne (by decide)]
  have d42 : σ6.1 42 = upd (σ.1 42) k (nI w.2.2) := by rw [e6, rI_ne (by decide), e5, rI_at, e4, rI_ne (by decide), e3, rI_ne (by decide), e2, rI_ne (by decide), e1, rI_ne (by decide)]
  have d43 : σ6.1 43 = upd (σ.1 43) k (nI o) := by rw [e6, rI_at, e5, rI_ne (by decide), e4, rI_ne (by decide), e3, rI_ne (by decide), e2, rI_ne (by decide), e1, rI_ne (by decide)]
  refine ⟨σ6, ?_, ⟨by rw [c6, c1, pk_un (by decide)]; exact h1, by rw [c6, q36, ek]; rfl, fun j j1 j2 => ?_⟩, ?_, by rw [c6, c1, pk_un (by decide)]⟩
  · unfold f_Mo_bind
    rw [h2, nI_1, ← ek, ← e1, lt_q, gd_t (inb_nI hr (by decide)), nI_cl (show r < 2 ^ 31 by omega), q37, gd_t (inb_nI (by omega) (by decide)), nI_cl (show b < 2 ^ 31 by omega), q36, gd_t gk, ck, q17, ← e2, lt_q, c2, q36, gd_t gk, ck, q33, ← e3, lt_q, c3, q36, gd_t gk, ck, q34, ← e4, lt_q, c4, q36, gd_t gk, ck, q35, ← e5, lt_q, gd_t (inb_nI hr (by decide)), c5, q36, gd_t gk, ck, q38, ← e6, lt_q, c6, q36]
  · show σ6.1 39 j = upd s.2.2.1 (s.2.1 + 1) (F b) j ∧ σ6.1 40 j = nI (if j = s.2.1 + 1 then w else s.2.2.2.1 j).1 ∧ σ6.1 41 j = (if j = s.2.1 + 1 then w else s.2.2.2.1 j).2.1 ∧ σ6.1 42 j = nI (if j = s.2.1 + 1 then w else s.2.2.2.1 j).2.2 ∧ σ6.1 43 j = nI (if j = s.2.1 + 1 then o else s.2.2.2.2 j)
    have j2' : j ≤ s.2.1 + 1 := j2
    rw [d39, d40, d41, d42, d43, ← ek]
    by_cases z : j = k
    · rw [z, pk_us, pk_us, pk_us, pk_us, pk_us, pk_us, if_pos rfl, if_pos rfl]; exact ⟨rfl, rfl, rfl, rfl, rfl⟩
    · rw [pk_un z, pk_un z, pk_un z, pk_un z, pk_un z, pk_un z, if_neg z, if_neg z]
      exact h3 j j1 (by omega)
  · rw [e6, e5, e4, e3, e2, e1]
    exact FM_tr (FM_tr (FM_tr (FM_tr (FM_tr (FM_15 61 σ _ (by unfold o15; omega)) (FM_b 61 _ _ _ (by decide) (by decide))) (FM_b 61 _ _ _ (by decide) (by decide))) (FM_b 61 _ _ _ (by decide) (by decide))) (FM_b 61 _ _ _ (by decide) (by decide))) (FM_b 61 _ _ _ (by decide) (by decide))
end MRUN
