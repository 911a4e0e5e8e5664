/-! the reference spells its program: the turns -/
abbrev Bs : Int32 × Int32 × Mem → Option ((Int32 × Int32 × Mem) ⊕ (Unit × Mem)) := fun q => f_Mo_spell_L22 q.1 q.2.1 q.2.2
abbrev Cs (v : Nat) : Int32 × Int32 × Mem → Option ((Int32 × Int32 × Mem) ⊕ ((Int32 × Int32 × Mem) ⊕ (Unit × Mem))) := fun q => f_Mo_spell_L77 (nI v) q.1 q.2.1 q.2.2
def LKs (k s v : Nat) (σ : Mem) (z : Unit × Mem) : Prop := ∃ mm st, mm ≤ s + 1 ∧ loopF (Cs v) mm (nI s, bS s, σ) = some (.inl st) ∧ loopF Bs k st = some z
def mSp (c : Nat) : Prop := c = 15 ∨ 27 ≤ c ∧ c ≤ 32
def frS (σ σ' : Mem) : Prop := fr mSp σ σ' ∧ ∀ q, q ≠ 17 → σ'.1 15 q = σ.1 15 q
theorem frS_rf (σ : Mem) : frS σ σ := ⟨fr_rf _ _, fun _ _ => rfl⟩
theorem frS_tr {a b c : Mem} (h1 : frS a b) (h2 : frS b c) : frS a c := ⟨fr_tr h1.1 h2.1, fun q hq => (h2.2 q hq).trans (h1.2 q hq)⟩
theorem frQ_S {a b : Mem} (h : frQ a b) : frS a b := ⟨fr_mono h.1 (fun c q => by unfold mPq mPg at q; unfold mSp; omega), h.2⟩
theorem frS_rI (σ : Mem) {c : Nat} (f : Nat → Int32) (h : 29 ≤ c ∧ c ≤ 31) : frS σ (rI σ c f) := ⟨fr_rI _ _ (by unfold mSp; omega), fun q _ => by rw [rI_ne (by omega)]⟩
theorem zero_1 : (0 : Int32) + 1 = 1 := by decide
theorem bS_s (s : Nat) : ¬ bS (s + 1) = 0 := by unfold bS; rw [if_neg (by omega)]; decide
section SPELL2
variable {n : Nat} {K F : Nat → Int32} {T : Nat → Int64}
theorem RS_S {σ σ' : Mem} (h : RS n K F T σ) (hf : frS σ σ') : RS n K F T σ' := by
  have g : ∀ c, 16 ≤ c → c ≤ 18 → σ'.1 c = σ.1 c ∧ σ'.2 c = σ.2 c := fun c a b => hf.1 c (by unfold mSp; omega)
  unfold RS rowM
  rw [hf.2 0 (by decide), (g 16 (by decide) (by decide)).1, (g 17 (by decide) (by decide)).1, (g 18 (by decide) (by decide)).2]
  exact h
theorem lks_between (hn : n ≤ 40) {σ : Mem} (hR : RS n K F T σ) {s i : Nat} (hs : s < 15) (hi : i < n) (ha : ar (K i) = 2) (h30 : σ.1 30 s = nI i) (h31 : σ.1 31 s = 0) {L : Tp} (hT : TM σ L) (hL : L.length < 1790) : ∃ σ3, TM σ3 (L ++ [(mdT K i, i)]) ∧ frQ (sI σ 31 s 1) σ3 ∧ ∀ k v z, loopF Bs k (nI (s + 1), nI (v + 1), σ3) = some z → LKs k (s + 1) v σ z := by
  obtain ⟨σ13, e13⟩ : ∃ x, x = sI σ 31 s 1 := ⟨_, rfl⟩
  have hT2 : TM σ13 L := by rw [e13]; exact TM_rI hT _ (by decide) (by decide) (by decide)
  have hR2 : RS n K F T σ13 := by rw [e13]; exact RS_rI hR _ (by decide) (by decide) (by decide)
  have c31 : σ13.1 31 s = 1 := by rw [e13, rI_at, pk_us]
  obtain ⟨σ3, a1, a2, a3⟩ := s_put hT2 (by omega) (mdT K i) i
  rw [← e13]
  refine ⟨σ3, a2, frP_Q a3, fun k v z hz => ⟨2, (nI (s + 1), nI (v + 1), σ3), by omega, ?_, hz⟩⟩
  refine lp_step (b := (nI (s + 1), 0, σ3)) ?_ (lp_exit ?_)
  · show f_Mo_spell_L77 (nI v) (nI (s + 1)) (bS (s + 1)) σ = _
    have J : f_Mo_spell_J129 (nI (s + 1)) (nI v) (bS (s + 1)) (nI i) 0 σ13 = some (.inl (nI (s + 1), 0, σ3)) := by
      unfold f_Mo_spell_J129 f_Mo_spell_J175 f_Mo_spell_J180
      rw [if_pos rfl, gd_t (inb_nI (by omega) (by decide)), nI_cl (by omega), (hR2.2 i hi).1]
      unfold mdT at a1
      by_cases q : K i = 3
      · rw [if_pos q] at a1 ⊢
        rw [a1, bn_q]
      · rw [if_neg q] at a1 ⊢
        rw [a1, bn_q]
    unfold f_Mo_spell_L77
    rw [if_neg (bS_s s), nI_pred, gd_t (inb_nI (by omega) (by decide)), nI_cl (show s < 2 ^ 31 by omega), h30, lt_q, gd_t (inb_nI (by omega) (by decide)), gd_t (inb_nI (by omega) (by decide)), h31, zero_1, ← e13, lt_q, gd_t (inb_nI (by omega) (by decide)), gd_t (inb_nI (by omega) (by decide)), nI_cl (show i < 2 ^ 31 by omega), (hR2.2 i hi).1, s_Mo_parts, bn_q, c31, ha, if_neg (by decide), J]
  · show f_Mo_spell_L77 (nI v) (nI (s + 1)) 0 σ3 = _
    unfold f_Mo_spell_L77 f_Mo_spell_J183
    rw [if_pos rfl, lt_q, nI_1]
    rfl
theorem lks_close (hn : n ≤ 40) (hk : okK n K F T) {σ : Mem} (hR : RS n K F T σ) {s i a : Nat} (hs : s < 15) (hi : i < n) (ha : ar (K i) = a + 1) (h30 : σ.1 30 s = nI i) (h31 : σ.1 31 s = nI a) {L : Tp} (hT : TM σ L) (hL : L.length + (clT K F T i).length ≤ 1790) : ∃ σ3, TM σ3 (L ++ own i (clT K F T i)) ∧ frQ (sI σ 31 s (nI (a + 1))) σ3 ∧ ∀ k v z, LKs k s v σ3 z → LKs k (s + 1) v σ z := by
  obtain ⟨σ13, e13⟩ : ∃ x, x = sI σ 31 s (nI (a + 1)) := ⟨_, rfl⟩
  have hT2 : TM σ13 L := by rw [e13]; exact TM_rI hT _ (by decide) (by decide) (by decide)
  have hR2 : RS n K F T σ13 := by rw [e13]; exact RS_rI hR _ (by decide) (by decide) (by decide)
  have c31 : σ13.1 31 s = nI (a + 1) := by rw [e13, rI_at, pk_us]
  obtain ⟨σ3, a1, a2, a3⟩ := s_closes hn hk hR2 hi (by omega) hT2 hL
  rw [← e13]
  refine ⟨σ3, a2, a3, fun k v z hz => ?_⟩
  obtain ⟨mm, st_, x1, x2, x3⟩ := hz
  refine ⟨mm + 1, st_, by omega, ?_, x3⟩
  refine lp_step (b := (nI s, bS s, σ3)) ?_ x2
  show f_Mo_spell_L77 (nI v) (nI (s + 1)) (bS (s + 1)) σ = _
  have J : f_Mo_spell_J129 (nI (s + 1)) (nI v) (bS (s + 1)) (nI i) 1 σ13 = some (.inl (nI s, bS s, σ3)) := by
    unfold f_Mo_spell_J129 f_Mo_spell_J152 f_Mo_spell_J180
    rw [if_neg (by decide), a1, bn_q, lt_q, pk_m1, bS_le (by omega)]
    unfold bS
    by_cases q : s = 0
    · rw [if_pos q, if_pos q]
    · rw [if_neg q, if_neg q]
  unfold f_Mo_spell_L77
  rw [if_neg (bS_s s), nI_pred, gd_t (inb_nI (by omega) (by decide)), nI_cl (show s < 2 ^ 31 by omega), h30, lt_q, gd_t (inb_nI (by omega) (by decide)), gd_t (inb_nI (by omega) (by decide)), h31, nI_1, ← e13, lt_q, gd_t (inb_nI (by omega) (by decide)), gd_t (inb_nI (by omega) (by decide)), nI_cl (show i < 2 ^ 31 by omega), (hR2.2 i hi).1, s_Mo_parts, bn_q, c31, ha, if_pos rfl, J]
theorem pS (hn : n ≤ 40) (hk : okK n K F T) : ∀ (f : Nat) {i e : Nat}, tm K f i = some e → f ≤ 12 → e ≤ n → ∀ (s : Nat) (L : Tp) (σ : Mem), RS n K F T σ → TM σ L → s + f ≤ 15 → L.length + (tx K F T f i).length ≤ 1790 → ∃ σ1, TM σ1 (L ++ tx K F T f i) ∧ frS σ σ1 ∧ (∀ q, q < s → σ1.1 30 q = σ.1 30 q ∧ σ1.1 31 q = σ.1 31 q) ∧ (∀ j, i ≤ j → j < e → σ1.1 29 j = nI (bgn K F T f i L.length j)) ∧ (∀ j, j < i ∨ e ≤ j → σ1.1 29 j = σ.1 29 j) ∧ ∀ k z, LKs k s (e - 1) σ1 z → loopF Bs (k + (e - i)) (nI s, nI i, σ) = some z := by
  intro f
  induction f with
  | zero => intro i e h; cases h
  | succ f ih =>
    intro i e h hf he s L σ hR hT hs hL
    have hlt := tm_lt h
    obtain ⟨f', ef, hc⟩ := tm_cases h
    obtain rfl : f = f' := by omega
    have ex : tx K F T (f + 1) i = if ar (K i) = 0 then own i (opT K F T i) else if ar (K i) = 1 then own i (opT K F T i) ++ tx K F T f (i + 1) ++ own i (clT K F T i) else own i (opT K F T i) ++ tx K F T f (i + 1) ++ [(mdT K i, i)] ++ tx K F T f (eN K (i + 1)) ++ own i (clT K F T i) := rfl
    have eb : ∀ l j, bgn K F T (f + 1) i l j = if j = i then l else if ar (K i) = 1 ∨ j < eN K (i + 1) then bgn K F T f (i + 1) (l + (opT K F T i).length) j else bgn K F T f (eN K (i + 1)) (l + (opT K F T i).length + (tx K F T f (i + 1)).length + 1) j := fun _ _ => rfl
    have notend : ¬ σ.1 15 0 ≤ nI i := fun z => by rw [hR.1] at z; have := (nIle (by omega) (by omega)).mp z; omega
    have gi : inb (nI i) 48 = true := inb_nI (by omega) (by decide)
    have ci : (nI i).toNatClampNeg = i := nI_cl (by omega)
    have hLo : L.length + (opT K F T i).length ≤ 1790 := by
      rw [ex] at hL
      rcases hc with ⟨q, e1⟩ | ⟨q, h1⟩ | ⟨q, d, h1, h2⟩
      · rw [if_pos q, own_len] at hL; exact hL
      · rw [if_neg (by omega), if_pos q, List.length_append, List.length_append, own_len] at hL; omega
      · rw [if_neg (by omega), if_neg (by omega), List.length_append, List.length_append, List.length_append, List.length_append, own_len] at hL; omega
    obtain ⟨σ2, a1, a2, a3⟩ := s_opens hn hk hR (i := i) (by omega) hT hLo
    have fS2 : frS σ σ2 := frS_tr (frS_rI σ _ (by omega)) (frQ_S a3)
    have R2 := RS_S hR fS2
    have c29 : σ2.1 29 = upd (σ.1 29) i (nI L.length) := by rw [(frQ_c a3 (c := 29) (by decide) (by decide) (by decide) (by decide)).1, rI_at]
    have c30 : σ2.1 30 = σ.1 30 := by rw [(frQ_c a3 (c := 30) (by decide) (by decide) (by decide) (by decide)).1, rI_ne (by decide)]
    have c31 : σ2.1 31 = σ.1 31 := by rw [(frQ_c a3 (c := 31) (by decide) (by decide) (by decide) (by decide)).1, rI_ne (by decide)]
    rcases hc with ⟨q, e1⟩ | hc
    · -- a leaf
      rw [ex, if_pos q]
      refine ⟨σ2, a2, fS2, fun r _ => by rw [c30, c31]; exact ⟨rfl, rfl⟩, fun j j1 j2 => ?_, fun j hj => ?_, fun k z hz => ?_⟩
      · obtain rfl : j = i := by omega
        rw [eb, if_pos rfl, c29, pk_us]
      · rw [c29, pk_un (by omega)]
      · obtain ⟨mm, st_, x1, x2, x3⟩ := hz
        rw [show k + (e - i) = k + 1 by omega]
        refine lp_step (b := st_) ?_ x3
        show f_Mo_spell_L22 (nI s) (nI i) σ = _
        unfold f_Mo_spell_L22 f_Mo_spell_J76
        rw [if_neg notend, a1, bn_q, gd_t gi, ci, (R2.2 i (by omega)).1, s_Mo_parts, bn_q, q, if_pos (by decide), bS_le (by omega)]
        rw [show e - 1 = i by omega] at x2
        unfold bS at x2
        by_cases y : s = 0
        · rw [if_pos y] at x2 ⊢
          exact lp_FU x2 (by omega)
        · rw [if_neg y] at x2 ⊢
          exact lp_FU x2 (by omega)
    · -- parts
      have npos : ¬ nI (ar (K i)) ≤ 0 := by
        rcases hc with ⟨q, _⟩ | ⟨q, _⟩ <;> (rw [q]; decide)
      obtain ⟨σ3, e3⟩ : ∃ x, x = sI σ2 30 s (nI i) := ⟨_, rfl⟩
      obtain ⟨σ4, e4⟩ : ∃ x, x = sI σ3 31 s 0 := ⟨_, rfl⟩
      have T4 : TM σ4 (L ++ own i (opT K F T i)) := by
        rw [e4, e3]; exact TM_rI (TM_rI a2 _ (by decide) (by decide) (by decide)) _ (by decide) (by decide) (by decide)
      have f24 : frS σ2 σ4 := by rw [e4, e3]; exact frS_tr (frS_rI σ2 _ (by omega)) (frS_rI _ _ (by omega))
      have R4 := RS_S R2 f24
      have d29 : σ4.1 29 = upd (σ.1 29) i (nI L.length) := by rw [e4, rI_ne (by decide), e3, rI_ne (by decide), c29]
      have d30 : σ4.1 30 = upd (σ.1 30) s (nI i) := by rw [e4, rI_ne (by decide), e3, rI_at, c30]
      have d31 : σ4.1 31 = upd (σ.1 31) s 0 := by rw [e4, rI_at, e3, rI_ne (by decide), c31]
      have enter : ∀ {k : Nat} {z : Unit × Mem}, loopF Bs k (nI (s + 1), nI (i + 1), σ4) = some z → loopF Bs (k + 1) (nI s, nI i, σ) = some z := fun hz => by
        refine lp_step (b := (nI (s + 1), nI (i + 1), σ4)) ?_ hz
        show f_Mo_spell_L22 (nI s) (nI i) σ = _
        unfold f_Mo_spell_L22 f_Mo_spell_J183
        rw [if_neg notend, a1, bn_q, gd_t gi, ci, (R2.2 i (by omega)).1, s_Mo_parts, bn_q, if_neg npos, gd_t (inb_nI (by omega) (by decide)), nI_cl (by omega), ← e3, lt_q, gd_t (inb_nI (by omega) (by decide)), ← e4, lt_q, lt_q, lt_q, nI_1, nI_1]
      have l4 : (L ++ own i (opT K F T i)).length = L.length + (opT K F T i).length := by rw [List.length_append, own_len]
      rcases hc with ⟨q, h1⟩ | ⟨q, d, h1, h2⟩
      · have l1 := tm_lt h1
        rw [ex, if_neg (by omega), if_pos q, List.length_append, List.length_append, own_len, own_len] at hL
        rw [ex, if_neg (by omega), if_pos q]
        obtain ⟨σ5, b1, b2, b3, b4, b5, b6⟩ := ih h1 (by omega) he (s + 1) _ σ4 R4 T4 (by omega) (by rw [l4]; omega)
        have R5 := RS_S R4 b2
        obtain ⟨σ6, g1, g2, g3⟩ := lks_close hn hk R5 (s := s) (i := i) (a := 0) (by omega) (by omega) q (by rw [(b3 s (by omega)).1, d30, pk_us]) (by rw [(b3 s (by omega)).2, d31, pk_us]; rfl) b1 (by rw [List.length_append, l4]; omega)
        have f56 : frS σ5 σ6 := frS_tr (frS_rI σ5 _ (by omega)) (frQ_S g2)
        have c29' : σ6.1 29 = σ5.1 29 := by rw [(frQ_c g2 (c := 29) (by decide) (by decide) (by decide) (by decide)).1, rI_ne (by decide)]
        have c30' : σ6.1 30 = σ5.1 30 := by rw [(frQ_c g2 (c := 30) (by decide) (by decide) (by decide) (by decide)).1, rI_ne (by decide)]
        have c31' : σ6.1 31 = upd (σ5.1 31) s (nI (0 + 1)) := by rw [(frQ_c g2 (c := 31) (by decide) (by decide) (by decide) (by decide)).1, rI_at]
        refine ⟨σ6, ?_, frS_tr fS2 (frS_tr f24 (frS_tr b2 f56)), fun r hr => ?_, fun j j1 j2 => ?_, fun j hj => ?_, fun k z hz => ?_⟩
        · rw [← List.append_assoc, ← List.append_assoc]; exact g1
        · rw [c30', c31', pk_un (by omega), (b3 r (by omega)).1, (b3 r (by omega)).2, d30, d31, pk_un (by omega), pk_un (by omega)]
          exact ⟨rfl, rfl⟩
        · rw [c29', eb]
          by_cases y : j = i
          · rw [if_pos y, b5 j (by omega), d29, y, pk_us]
          · rw [if_neg y, if_pos (Or.inl q), b4 j (by omega) (by omega), l4]
        · rw [c29', b5 j (by omega), d29, pk_un (by omega)]
        · rw [show k + (e - i) = k + (e - (i + 1)) + 1 by omega]
          exact enter (b6 k z (g3 k (e - 1) z hz))
      · have l1 := tm_lt h1
        have l2 := tm_lt h2
        have ed : eN K (i + 1) = d := eN_of (by omega) h1
        rw [ex, if_neg (by omega), if_neg (by omega), ed, List.length_append, List.length_append, List.length_append, List.length_append, own_len, own_len] at hL
        have hmd : ([(mdT K i, i)] : Tp).length = 1 := rfl
        rw [hmd] at hL
        rw [ex, if_neg (by omega), if_neg (by omega), ed]
        obtain ⟨σ5, b1, b2, b3, b4, b5, b6⟩ := ih h1 (by omega) (by omega) (s + 1) _ σ4 R4 T4 (by omega) (by rw [l4]; omega)
        have R5 := RS_S R4 b2
        obtain ⟨σ6, g1, g2, g3⟩ := lks_between hn R5 (s := s) (i := i) (by omega) (by omega) q (by rw [(b3 s (by omega)).1, d30, pk_us]) (by rw [(b3 s (by omega)).2, d31, pk_us]) b1 (by rw [List.length_append, l4]; omega)
        have f56 : frS σ5 σ6 := frS_tr (frS_rI σ5 _ (by omega)) (frQ_S g2)
        have R6 := RS_S R5 f56
        have c29' : σ6.1 29 = σ5.1 29 := by rw [(frQ_c g2 (c := 29) (by decide) (by decide) (by decide) (by decide)).1, rI_ne (by decide)]
        have c30' : σ6.1 30 = σ5.1 30 := by rw [(frQ_c g2 (c := 30) (by decide) (by decide) (by decide) (by decide)).1, rI_ne (by decide)]
        have c31' : σ6.1 31 = upd (σ5.1 31) s 1 := by rw [(frQ_c g2 (c := 31) (by decide) (by decide) (by decide) (by decide)).1, rI_at]
        have l6 : (L ++ own i (opT K F T i) ++ tx K F T f (i + 1) ++ [(mdT K i, i)]).length = L.length + (opT K F T i).length + (tx K F T f (i + 1)).length + 1 := by rw [List.length_append, List.length_append, l4, hmd]
        obtain ⟨σ7, p1, p2, p3, p4, p5, p6⟩ := ih h2 (by omega) he (s + 1) _ σ6 R6 g1 (by omega) (by rw [l6]; omega)
        have R7 := RS_S R6 p2
        obtain ⟨σ8, r1, r2, r3⟩ := lks_close hn hk R7 (s := s) (i := i) (a := 1) (by omega) (by omega) q (by rw [(p3 s (by omega)).1, c30', (b3 s (by omega)).1, d30, pk_us]) (by rw [(p3 s (by omega)).2, c31', pk_us]; rfl) p1 (by rw [List.length_append, l6]; omega)
        have f78 : frS σ7 σ8 := frS_tr (frS_rI σ7 _ (by omega)) (frQ_S r2)
        have k29 : σ8.1 29 = σ7.1 29 := by rw [(frQ_c r2 (c := 29) (by decide) (by decide) (by decide) (by decide)).1, rI_ne (by decide)]
        have k30 : σ8.1 30 = σ7.1 30 := by rw [(frQ_c r2 (c := 30) (by decide) (by decide) (by decide) (by decide)).1, rI_ne (by decide)]
        have k31 : σ8.1 31 = upd (σ7.1 31) s (nI (1 + 1)) := by rw [(frQ_c r2 (c := 31) (by decide) (by decide) (by decide) (by decide)).1, rI_at]
        refine ⟨σ8, ?_, frS_tr fS2 (frS_tr f24 (frS_tr b2 (frS_tr f56 (frS_tr p2 f78)))), fun r hr => ?_, fun j j1 j2 => ?_, fun j hj => ?_, fun k z hz => ?_⟩
        · rw [← List.append_assoc, ← List.append_assoc, ← List.append_assoc, ← List.append_assoc]; exact r1
        · rw [k30, k31, pk_un (by omega), (p3 r (by omega)).1, (p3 r (by omega)).2, c30', c31', pk_un (by omega), (b3 r (by omega)).1, (b3 r (by omega)).2, d30, d31, pk_un (by omega), pk_un (by omega)]
          exact ⟨rfl, rfl⟩
        · rw [k29, eb]
          by_cases y : j = i
          · rw [if_pos y, p5 j (by omega), c29', b5 j (by omega), d29, y, pk_us]
          · by_cases y2 : j < d
            · rw [if_neg y, if_pos (Or.inr (by rw [ed]; exact y2)), p5 j (by omega), c29', b4 j (by omega) y2, l4]
            · rw [if_neg y, if_neg (by rw [ed]; omega), p4 j (by omega) j2, l6, ed]
        · rw [k29, p5 j (by omega), c29', b5 j (by omega), d29, pk_un (by omega)]
        · rw [show k + (e - i) = k + (e - d) + (d - (i + 1)) + 1 by omega]
          refine enter (b6 _ z (g3 _ _ z ?_))
          rw [show d - 1 + 1 = d by omega]
          exact p6 k z (r3 k (e - 1) z hz)
/-- the reference's spelling -/
theorem s_spell (hn : n ≤ 40) (hk : okK n K F T) (h12 : tm K 12 0 = some n) {σ : Mem} (hR : RS n K F T σ) (h16 : σ.1 15 16 = 0) : ∃ σ', f_Mo_spell σ = some ((), σ') ∧ TM σ' (tx K F T 12 0) ∧ (∀ j, j < n → σ'.1 29 j = nI (bgn K F T 12 0 0 j)) ∧ fr mSp σ σ' ∧ σ'.1 15 16 = 1 ∧ ∀ q, q ≠ 16 → q ≠ 17 → σ'.1 15 q = σ.1 15 q := by
  obtain ⟨σ1, e1⟩ : ∃ x, x = sI σ 15 16 1 := ⟨_, rfl⟩
  obtain ⟨σ2, e2⟩ : ∃ x, x = sI σ1 15 17 0 := ⟨_, rfl⟩
  have c15 : σ2.1 15 = upd (upd (σ.1 15) 16 1) 17 0 := by rw [e2, rI_at, e1, rI_at]
  have f02 : fr mSp σ σ2 := by rw [e2, e1]; exact fr_tr (fr_rI _ _ (Or.inl rfl)) (fr_rI _ _ (Or.inl rfl))
  have g : ∀ c, 16 ≤ c → c ≤ 18 → σ2.1 c = σ.1 c ∧ σ2.2 c = σ.2 c := fun c a b => f02 c (by unfold mSp; omega)
  have R2 : RS n K F T σ2 := by
    unfold RS rowM
    rw [c15, pk_un (by decide), pk_un (by decide), (g 16 (by decide) (by decide)).1, (g 17 (by decide) (by decide)).1, (g 18 (by decide) (by decide)).2]
    exact hR
  have T2 : TM σ2 [] := ⟨by rw [c15, pk_us]; rfl, fun j x hx => by cases hx⟩
  have ln := tx_len hk 12 h12 (by decide) (Nat.le_refl _)
  obtain ⟨σ3, b1, b2, b3, b4, b5, b6⟩ := pS hn hk 12 h12 (by decide) (Nat.le_refl _) 0 [] σ2 R2 T2 (by decide) (by show 0 + _ ≤ 1790; omega)
  have hlt := tm_lt h12
  have root : LKs 1 0 (n - 1) σ3 ((), σ3) := by
    refine ⟨1, (nI 0, nI n, σ3), by omega, lp_exit ?_, lp_exit ?_⟩
    · show f_Mo_spell_L77 (nI (n - 1)) (nI 0) (bS 0) σ3 = _
      unfold f_Mo_spell_L77 f_Mo_spell_J183
      rw [if_pos (show bS 0 = 0 from rfl), lt_q, nI_1, show n - 1 + 1 = n by omega]
      rfl
    · show f_Mo_spell_L22 (nI 0) (nI n) σ3 = _
      unfold f_Mo_spell_L22
      rw [(RS_S R2 b2).1, if_pos ((nIle (by omega) (by omega)).mpr (Nat.le_refl _))]
      rfl
  have run := b6 1 _ root
  refine ⟨σ3, ?_, by rw [List.nil_append] at b1; exact b1, fun j hj => b4 j (Nat.zero_le _) hj, fr_tr f02 b2.1, ?_, fun q h1 h2 => ?_⟩
  · unfold f_Mo_spell
    rw [if_pos h16, lt_q, ← e1, lt_q, ← e2, lt_q, lt_q]
    exact lp_FU run (by omega)
  · rw [b2.2 16 (by decide), c15, pk_un (by decide), pk_us]
  · rw [b2.2 q h2, c15, pk_un h2, pk_un h1]
end SPELL2
