/-! the reference puts a type -/
def mPq (c : Nat) : Prop := mPg c ∨ c = 32
def frQ (σ σ' : Mem) : Prop := fr mPq σ σ' ∧ ∀ q, q ≠ 17 → σ'.1 15 q = σ.1 15 q
theorem frQ_rf (σ : Mem) : frQ σ σ := ⟨fr_rf _ _, fun _ _ => rfl⟩
theorem frQ_tr {a b c : Mem} (h1 : frQ a b) (h2 : frQ b c) : frQ a c := ⟨fr_tr h1.1 h2.1, fun q hq => (h2.2 q hq).trans (h1.2 q hq)⟩
theorem frP_Q {a b : Mem} (h : frP a b) : frQ a b := ⟨fr_mono h.1 (fun c q => Or.inl q), h.2⟩
theorem frP_32 {a b : Mem} (h : frP a b) : b.1 32 = a.1 32 := (h.1 32 (by unfold mPg; omega)).1
theorem frQ_32 (σ : Mem) (q : Nat) (v : Int32) : frQ σ (sI σ 32 q v) := ⟨fr_rI _ _ (Or.inr rfl), fun q _ => by rw [rI_ne (by decide)]⟩
theorem TM_32 {σ : Mem} {L : Tp} (h : TM σ L) (q : Nat) (v : Int32) : TM (sI σ 32 q v) L := by
  unfold TM
  rw [rI_ne (by decide), rI_ne (by decide), rI_ne (by decide)]
  exact h
theorem lt_q {α β : Type} {a : α} {f : α → β} : lt_ a f = f a := by rw [lt_]
theorem two_1 : (2 : Int32) - 1 = 1 := by decide
theorem one_1 : (1 : Int32) - 1 = 0 := by decide
def bS (s : Nat) : Int32 := if s = 0 then 0 else 1
section PTYPE
variable {u m o : Nat}
abbrev Bt (u m o : Nat) : Int32 × Int32 × Mem → Option ((Int32 × Int32 × Mem) ⊕ (Unit × Mem)) := fun q => f_Mo_putType_L13 (lN u) (nI o) (nI m) q.1 q.2.1 q.2.2
abbrev Ct (u m o v : Nat) (v7 : Int32) : Int32 × Int32 × Mem → Option ((Int32 × Int32 × Mem) ⊕ ((Int32 × Int32 × Mem) ⊕ (Unit × Mem))) := fun q => f_Mo_putType_L89 (lN u) (nI o) (nI m) (nI v) v7 q.1 q.2.1 q.2.2
def LKt (u m o k s v : Nat) (σ : Mem) (z : Unit × Mem) : Prop := ∃ mm st, mm ≤ s + 1 ∧ (∀ v7, loopF (Ct u m o v v7) mm (nI s, bS s, σ) = some (.inl st)) ∧ loopF (Bt u m o) k st = some z
theorem bS_le {s : Nat} (hs : s < 1000) {α : Type} (a b : α) : (if nI s ≤ 0 then a else b) = if s = 0 then a else b := by
  by_cases q : s = 0
  · rw [if_pos q, if_pos ((nI_le0 (by omega)).mpr q)]
  · rw [if_neg q, if_neg (fun z => q ((nI_le0 (by omega)).mp z))]
/-- one more closed in the type around -/
theorem lk_between {k s v : Nat} {σ : Mem} {z : Unit × Mem} (hs : s < 31) (hl : σ.1 32 s = 2) (hk : loopF (Bt u m o) k (nI (s + 1), nI (v + 1), sI σ 32 s 1) = some z) : LKt u m o k (s + 1) v σ z := by
  refine ⟨2, (nI (s + 1), nI (v + 1), sI σ 32 s 1), by omega, fun v7 => ?_, hk⟩
  refine lp_step (b := (nI (s + 1), 0, sI σ 32 s 1)) ?_ (lp_exit ?_)
  · show f_Mo_putType_L89 (lN u) (nI o) (nI m) (nI v) v7 (nI (s + 1)) (bS (s + 1)) σ = _
    unfold f_Mo_putType_L89 f_Mo_putType_J124
    rw [if_neg (show ¬ bS (s + 1) = 0 by unfold bS; rw [if_neg (by omega)]; decide), nI_pred, gd_t (inb_nI (by omega) (by decide)), gd_t (inb_nI (by omega) (by decide)), nI_cl (by omega), hl, lt_q, gd_t (inb_nI (by omega) (by decide)), two_1, rI_at, pk_us, if_neg (by decide), if_pos rfl]
  · show f_Mo_putType_L89 (lN u) (nI o) (nI m) (nI v) v7 (nI (s + 1)) 0 (sI σ 32 s 1) = _
    unfold f_Mo_putType_L89 f_Mo_putType_J156
    rw [if_pos rfl, lt_q, nI_1]
    rfl
theorem lk_closeB {s v : Nat} {σ σ8 σ3 : Mem} (v7 : Int32) (hs : s < 31) (hl : σ.1 32 s = 1) (e8 : σ8 = sI σ 32 s 0) (a1 : f_Mo_put 62 (nI o) σ8 = some ((), σ3)) : f_Mo_putType_L89 (lN u) (nI o) (nI m) (nI v) v7 (nI (s + 1)) (bS (s + 1)) σ = some (.inl (nI s, bS s, σ3)) := by
  have c8 : σ8.1 32 s = 0 := by rw [e8, rI_at, pk_us]
  have J124 : f_Mo_putType_J124 (lN u) (nI o) (nI (s + 1)) (nI m) (nI v) v7 (bS (s + 1)) 1 σ8 = some (.inl (nI s, bS s, σ3)) := by
    unfold f_Mo_putType_J124 f_Mo_putType_J151
    rw [if_neg (show ¬ (1 : Int32) = 0 by decide), a1, bn_q]
    rw [lt_q, pk_m1, bS_le (by omega)]
    unfold bS
    by_cases q : s = 0
    · rw [if_pos q, if_pos q]
    · rw [if_neg q, if_neg q]
  have nb : ¬ bS (s + 1) = 0 := by unfold bS; rw [if_neg (by omega)]; decide
  unfold f_Mo_putType_L89
  rw [if_neg nb, nI_pred, gd_t (inb_nI (by omega) (by decide)), gd_t (inb_nI (by omega) (by decide)), nI_cl (by omega), hl, one_1, ← e8, lt_q, gd_t (inb_nI (by omega) (by decide)), if_pos c8, J124]
theorem lk_close {s : Nat} {σ : Mem} {L : Tp} (hs : s < 31) (hT : TM σ L) (hL : L.length < 1790) (hl : σ.1 32 s = 1) : ∃ σ', TM σ' (L ++ [(62, o)]) ∧ frQ σ σ' ∧ (∀ q, q < s → σ'.1 32 q = σ.1 32 q) ∧ ∀ k v z, LKt u m o k s v σ' z → LKt u m o k (s + 1) v σ z := by
  obtain ⟨σ8, e8⟩ : ∃ x, x = sI σ 32 s 0 := ⟨_, rfl⟩
  have hT8 : TM σ8 L := by rw [e8]; exact TM_32 hT s 0
  obtain ⟨σ3, a1, a2, a3⟩ := s_put hT8 (by omega) 62 o
  refine ⟨σ3, a2, frQ_tr (by rw [e8]; exact frQ_32 σ s 0) (frP_Q a3), fun q hq => ?_, ?_⟩
  · rw [frP_32 a3, e8, rI_at, pk_un (by omega)]
  · rintro k v z ⟨mm, st_, h1, h2, h3⟩
    refine ⟨mm + 1, st_, by omega, fun v7 => ?_, h3⟩
    exact lp_step (b := (nI s, bS s, σ3)) (lk_closeB v7 hs hl e8 a1) (h2 v7)
theorem pT (hu : u < 2 ^ 64) (hm : m ≤ 27) : ∀ (f : Nat) {a i e : Nat}, tyE (dg u) a i = some e → e - i ≤ f → e ≤ m → ∀ (s : Nat) (L : Tp) (σ : Mem), TM σ L → s + (e - i) ≤ 31 → L.length + (tyTx u f i).length ≤ 1790 → ∃ σ1, TM σ1 (L ++ own o (tyTx u f i)) ∧ frQ σ σ1 ∧ (∀ q, q < s → σ1.1 32 q = σ.1 32 q) ∧ ∀ k z, LKt u m o k s (e - 1) σ1 z → loopF (Bt u m o) (k + (e - i)) (nI s, nI i, σ) = some z := by
  intro f
  induction f with
  | zero => intro a i e h; have := tyE_lt h; intros; omega
  | succ f ih =>
    intro a i e h hef he s L σ hT hs hL
    have hlt := tyE_lt h
    have ex : tyTx u (f + 1) i = if dg u i = 3 then [60] ++ tyTx u f (i + 1) ++ tyTx u f (nx u (i + 1)) ++ [62] else if dg u i = 2 then [35] else [42] := rfl
    rw [ex] at hL ⊢
    have d4 := dg_lt u i
    obtain ⟨_, _, d0, hc⟩ := tyE_cases h
    have notend : ¬ nI m ≤ nI i := fun z => by have := (nIle (by omega) (by omega)).mp z; omega
    have d2 : nI (dg u i) = 2 ↔ dg u i = 2 := nI_eq (b := 2) (by omega) (by decide)
    rcases hc with ⟨h3, e1⟩ | ⟨h3, q, h1, h2⟩
    · -- a leaf
      rw [if_neg h3] at hL ⊢
      obtain ⟨sg, hsg, hbody⟩ : ∃ sg : Int32, (if dg u i = 2 then [35] else [42] : List Int32) = [sg] ∧ f_Mo_putType_L13 (lN u) (nI o) (nI m) (nI s) (nI i) σ = f_Mo_putType_J53 (lN u) (nI o) (nI s) (nI m) (nI i) (nI (dg u i)) sg σ := by
        by_cases z : dg u i = 2
        · refine ⟨35, by rw [if_pos z], ?_⟩
          unfold f_Mo_putType_L13
          rw [if_neg notend, s_Mo_symbol hu (by omega), bn_q, if_neg (fun y => by have := dg_1.mp y; omega), if_pos (d2.mpr z)]
        · refine ⟨42, by rw [if_neg z], ?_⟩
          unfold f_Mo_putType_L13
          rw [if_neg notend, s_Mo_symbol hu (by omega), bn_q, if_pos (dg_1.mpr (by omega))]
      rw [hsg] at hL ⊢
      obtain ⟨σ1, a1, a2, a3⟩ := s_put hT (by have : ([sg] : List Int32).length = 1 := rfl; omega) sg o
      refine ⟨σ1, a2, frP_Q a3, fun q _ => by rw [frP_32 a3], fun k z hz => ?_⟩
      obtain ⟨mm, st_, x1, x2, x3⟩ := hz
      rw [show k + (e - i) = k + 1 by omega]
      refine lp_step (b := st_) ?_ x3
      show f_Mo_putType_L13 (lN u) (nI o) (nI m) (nI s) (nI i) σ = _
      rw [hbody]
      unfold f_Mo_putType_J53 f_Mo_putType_J87
      rw [a1, bn_q, if_neg (fun y => h3 (dg_3.mp y)), bS_le (by omega)]
      have x2' := x2 (nI (dg u i))
      rw [show e - 1 = i by omega] at x2'
      unfold bS at x2'
      by_cases y : s = 0
      · rw [if_pos y] at x2' ⊢
        exact lp_FU x2' (by omega)
      · rw [if_neg y] at x2' ⊢
        exact lp_FU x2' (by omega)
    · -- two types in it
      have l1 := tyE_lt h1
      have l2 := tyE_lt h2
      rw [if_pos h3, (nx_of h1 (by omega)).2] at hL ⊢
      rw [List.length_append, List.length_append, List.length_append] at hL
      have n1 : ([60] : List Int32).length = 1 := rfl
      have n2 : ([62] : List Int32).length = 1 := rfl
      obtain ⟨σ1, a1, a2, a3⟩ := s_put hT (by omega) 60 o
      obtain ⟨σ2, e2⟩ : ∃ x, x = sI σ1 32 s 2 := ⟨_, rfl⟩
      have hT2 : TM σ2 (L ++ [(60, o)]) := by rw [e2]; exact TM_32 a2 s 2
      have c2 : σ2.1 32 = upd (σ.1 32) s 2 := by rw [e2, rI_at, frP_32 a3]
      obtain ⟨σ3, b1, b2, b3, b4⟩ := ih h1 (by omega) (by omega) (s + 1) (L ++ [(60, o)]) σ2 hT2 (by omega) (by rw [List.length_append]; show L.length + 1 + _ ≤ 1790; omega)
      have c3 : σ3.1 32 s = 2 := by rw [b3 s (by omega), c2, pk_us]
      obtain ⟨σ4, e4⟩ : ∃ x, x = sI σ3 32 s 1 := ⟨_, rfl⟩
      have hT4 : TM σ4 (L ++ [(60, o)] ++ own o (tyTx u f (i + 1))) := by rw [e4]; exact TM_32 b1 s 1
      obtain ⟨σ5, d1, d2', d3, d4'⟩ := ih h2 (by omega) he (s + 1) _ σ4 hT4 (by omega) (by rw [List.length_append, List.length_append, own_len]; show L.length + 1 + _ + _ ≤ 1790; omega)
      have c5 : σ5.1 32 s = 1 := by rw [d3 s (by omega), e4, rI_at, pk_us]
      have hlen : (L ++ [(60, o)] ++ own o (tyTx u f (i + 1)) ++ own o (tyTx u f q)).length < 1790 := by
        rw [List.length_append, List.length_append, List.length_append, own_len, own_len]
        show L.length + 1 + _ + _ < 1790
        omega
      obtain ⟨σ6, g1, g2, g3, g4⟩ := lk_close (u := u) (m := m) (o := o) (s := s) (by omega) d1 hlen c5
      have low : ∀ r, r < s → σ6.1 32 r = σ.1 32 r := fun r hr => by
        rw [g3 r hr, d3 r (by omega), e4, rI_at, pk_un (by omega), b3 r (by omega), c2, pk_un (by omega)]
      refine ⟨σ6, ?_, frQ_tr (frP_Q a3) (frQ_tr (by rw [e2]; exact frQ_32 σ1 s 2) (frQ_tr b2 (frQ_tr (by rw [e4]; exact frQ_32 σ3 s 1) (frQ_tr d2' g2)))), low, fun k z hz => ?_⟩
      · rw [own_ap, own_ap, own_ap, own_1, own_1, ← List.append_assoc, ← List.append_assoc, ← List.append_assoc]
        exact g1
      · have s2 := d4' k z (g4 k (e - 1) z hz)
        have s3 := lk_between (u := u) (m := m) (o := o) (v := q - 1) (by omega) c3 (by rw [← e4, show q - 1 + 1 = q by omega]; exact s2)
        have s4 := b4 _ z s3
        rw [show k + (e - i) = k + (e - q) + (q - (i + 1)) + 1 by omega]
        refine lp_step (b := (nI (s + 1), nI (i + 1), σ2)) ?_ s4
        show f_Mo_putType_L13 (lN u) (nI o) (nI m) (nI s) (nI i) σ = _
        unfold f_Mo_putType_L13 f_Mo_putType_J53 f_Mo_putType_J156
        rw [if_neg notend, s_Mo_symbol hu (by omega), bn_q, if_neg (fun y => by have := dg_1.mp y; omega), if_neg (fun y => by have := d2.mp y; omega), a1, bn_q, if_pos (dg_3.mpr h3), gd_t (inb_nI (by omega) (by decide)), nI_cl (by omega), lt_q, lt_q, lt_q, nI_1, nI_1, ← e2]
end PTYPE
