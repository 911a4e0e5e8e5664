/-! sum, call; function, claim -/
theorem ins_swap {α : Type} (x : Nat → α) {c a : Nat} (v w : α) (h : c ≤ a) : insF (insF x a v) c w = insF (insF x c w) (a + 1) v := by
  funext j
  unfold insF
  repeat' split
  all_goals first | rfl | (exfalso; omega) | (congr 1; omega) | (dsimp only; congr 1; omega)
theorem mxd_ge {K : Nat → Int32} {c : Nat} : ∀ m, dp K c ≤ mxd K c m
  | 0 => Nat.le_refl _
  | m + 1 => Nat.le_trans (mxd_ge m) (Nat.le_max_left _ _)
theorem mxd_11 {K : Nat → Int32} {c e : Nat} (h : c < e) : mxd K c (e - c) + 1 < 12 ↔ ∀ j, c ≤ j → j < e → dp K j < 11 := by
  constructor
  · intro q j h1 h2
    have h0 := mxd_ge (K := K) (c := c) (e - c)
    have := (mxd_lt (K := K) (c := c) (b := 11) (by omega) (e - c)).mp (by omega) (j - c) (by omega)
    rwa [show c + (j - c) = j by omega] at this
  · intro q
    have := (mxd_lt (K := K) (c := c) (b := 11) (q c (Nat.le_refl _) h) (e - c)).mpr (fun j hj => q _ (by omega) (by omega))
    omega
section JOINS
variable {TY : TYt} {PC : PCt} {PM : PMt} {σ : Mem} {n c p kp pb ch : Nat} {K F : Nat → Int32} {T : Nat → Int64} {Hs Ps : Nat → Pg}
/-- the reference: begun, one term put in front -/
theorem be_cu {σ3 : Mem} {n' : Nat} {K' F' : Nat → Int32} {T' : Nat → Int64} (h : atM σ (n, c, K, F, T)) (hb : begun σ σ3 (n, c, K, F, T) n' K' F' T') : σ3.1 15 1 = nI c := (hb.2.2.2.2.1 1 (by decide)).trans h.2.1
theorem M_pair (h : MV σ (n, c, K, F, T) kp pb Hs Ps) (ho : oks (n, c, K, F, T) kp pb Hs Ps) (x v : Int32) {pl : Nat} (hpl : pl = if v = 0 then eN K c + 1 else c + 1) : ∃ σ3, begun σ σ3 (n, c, K, F, T) (n + 2) (insF (insF K c x) pl 0) (insF (insF F c 0) pl 0) (insF (insF T c 0) pl 0) ∧ f_Mo_pair x v σ = bn (f_Mo_done (nI pl) σ3) fun (r7 : Int32) (σ6 : Mem) => gd (isB r7) (some (r7, σ6)) := by
  have hn : n ≤ 40 := ho.1.2.1
  have hc : c < n := ho.1.2.2.1
  have hw : wf K n := okP_wf ho.1
  obtain ⟨σ1, a1, a2⟩ := s_Mo_begin h.1 hn
  obtain ⟨at_, hat, e1⟩ : ∃ a, (c ≤ a ∧ a ≤ n ∧ pl = a + 1) ∧ f_Mo_pair x v σ = f_Mo_pair_J23 x v (nI a) σ1 := by
    unfold f_Mo_pair
    rw [a1, bn_q, be_cu h.1 a2]
    by_cases q : v = 0
    · obtain ⟨_, w1, w2⟩ := wf_at hw hc
      refine ⟨eN K c, ⟨by omega, w2, by rw [hpl, if_pos q]⟩, ?_⟩
      rw [if_pos q, s_Mo_end (n := n) (K := K) (by omega) (fun j hj => (a2.2.2.2.2.2 j hj).1) hw hc, bn_q]
    · refine ⟨c, ⟨Nat.le_refl _, by omega, by rw [hpl, if_neg q]⟩, ?_⟩
      rw [if_neg q]
  obtain ⟨σ2, b1, b2⟩ := begun_ins a2 hn (a := at_) hat.2.1 (by show n + 1 ≤ 48; omega) 0 0 0
  obtain ⟨σ3, d1, d2⟩ := begun_ins b2 hn (a := c) (by show c ≤ n + 1; omega) (by show n + 1 + 1 ≤ 48; omega) x 0 0
  rw [ins_swap _ _ _ hat.1, ins_swap _ _ _ hat.1, ins_swap _ _ _ hat.1, ← hat.2.2] at d2
  refine ⟨σ3, d2, ?_⟩
  rw [e1]
  unfold f_Mo_pair_J23
  rw [b1, bn_q, be_cu h.1 b2, d1, bn_q]
  have e2 : nI at_ + 1 = nI pl := by rw [hat.2.2]; exact nI_1 at_
  rw [e2]
theorem M_ins (h : MV σ (n, c, K, F, T) kp pb Hs Ps) (ho : oks (n, c, K, F, T) kp pb Hs Ps) (x y : Int32) (z : Int64) : ∃ σ1 σ3, f_Mo_begin σ = some ((), σ1) ∧ σ1.1 15 1 = nI c ∧ f_Mo_insert (nI c) x y z σ1 = some ((), σ3) ∧ σ3.1 15 1 = nI c ∧ begun σ σ3 (n, c, K, F, T) (n + 1) (insF K c x) (insF F c y) (insF T c z) := by
  have hn : n ≤ 40 := ho.1.2.1
  have hc : c < n := ho.1.2.2.1
  obtain ⟨σ1, a1, a2⟩ := s_Mo_begin h.1 hn
  obtain ⟨σ2, b1, b2⟩ := begun_ins a2 hn (a := c) (by show c ≤ n; omega) (by show n + 1 ≤ 48; omega) x y z
  exact ⟨σ1, σ2, a1, be_cu h.1 a2, b1, be_cu h.1 b2, b2⟩
/-- rows with a new term are in order, if they have room -/
theorem okK_ins {x y : Int32} {z : Int64} (h : okK n K F T) (hx : isK x) (h1 : x = 1 → (-999 : Int32) ≤ y ∧ y ≤ 999) (h2 : x = 2 ∨ x = 5 → ∃ m, m ≤ 9 ∧ y = nI m) (h3 : usT x → okT z) (a : Nat) (ha : a ≤ n) : okK (n + 1) (insF K a x) (insF F a y) (insF T a z) := fun j hj => by
  unfold insF
  by_cases q1 : j < a
  · rw [if_pos q1, if_pos q1, if_pos q1]
    exact h j (by omega)
  · rw [if_neg q1, if_neg q1, if_neg q1]
    by_cases q2 : j = a
    · rw [if_pos q2, if_pos q2, if_pos q2]
      exact ⟨hx, h1, h2, h3⟩
    · rw [if_neg q2, if_neg q2, if_neg q2]
      exact h (j - 1) (by omega)
theorem IV_join (h : IV TY PC PM σ (n, c, K, F, T) p kp pb ch Hs Ps) (hch : ch < 1000) {x : Int32} (v : Int32) (hx : ar x = 2) (hxK : isK x) (hx5 : x ≠ 5 ∧ x ≠ 6) : ∃ r σ1 σ2, f_Be_joinHole x v σ = some (r, σ1) ∧ isB r = true ∧ f_Mo_pair x v σ1 = some (r, σ2) ∧ Inv TY PC PM (ch + 1) σ2 := by
  have ho := h.1
  have hn : n ≤ 40 := ho.1.2.1
  have hc : c < n := ho.1.2.2.1
  have hw : wf K n := okP_wf ho.1
  have hd := okP_dp ho.1
  obtain ⟨pl, hpl⟩ : ∃ pl, pl = if v = 0 then eN K c + 1 else c + 1 := ⟨_, rfl⟩
  obtain ⟨_, w1, w2⟩ := wf_at hw hc
  have hpl2 : pl ≤ n + 1 := by rw [hpl]; split <;> omega
  have room := s_Pr_room h.2.1.2.2.2.1 hw hn hc (a := 2) (by decide)
  have facts : wf (insF (insF K c x) pl 0) (n + 2) ∧ ((∀ j, j < n + 2 → dp (insF (insF K c x) pl 0) j < 12) ↔ ∀ j, c ≤ j → j < eN K c → dp K j < 11) := by
    by_cases q : v = 0
    · rw [if_pos q] at hpl
      rw [hpl]
      obtain ⟨f1, f2, f3, f4, f5, f6⟩ := ins2a hw ho.1.1 (by decide) hc hx
      refine ⟨f1, fun g j h1 h2 => ?_, fun g j hj => ?_⟩
      · have := g (j + 1) (by omega)
        rw [f4 j h1 h2] at this
        omega
      · by_cases z1 : j < c
        · rw [f2 j z1]; exact hd j (by omega)
        by_cases z2 : j = c
        · rw [z2, f3]; exact hd c hc
        by_cases z3 : j ≤ eN K c
        · have := f4 (j - 1) (by omega) (by omega)
          rw [show j - 1 + 1 = j by omega] at this
          have := g (j - 1) (by omega) (by omega)
          omega
        by_cases z4 : j = eN K c + 1
        · rw [z4, f5]
          have := g c (Nat.le_refl _) w1
          omega
        · have := f6 (j - 2) (by omega) (by omega)
          rw [show j - 2 + 2 = j by omega] at this
          rw [this]; exact hd _ (by omega)
    · rw [if_neg q] at hpl
      rw [hpl]
      obtain ⟨f1, f2, f3, f4, f5, f6⟩ := ins2b hw ho.1.1 (by decide) hc hx
      refine ⟨f1, fun g j h1 h2 => ?_, fun g j hj => ?_⟩
      · have := g (j + 2) (by omega)
        rw [f5 j h1 h2] at this
        omega
      · by_cases z1 : j < c
        · rw [f2 j z1]; exact hd j (by omega)
        by_cases z2 : j = c
        · rw [z2, f3]; exact hd c hc
        by_cases z3 : j = c + 1
        · rw [z3, f4]
          have := g c (Nat.le_refl _) w1
          omega
        by_cases z4 : j < eN K c + 2
        · have := f5 (j - 2) (by omega) (by omega)
          rw [show j - 2 + 2 = j by omega] at this
          have := g (j - 2) (by omega) (by omega)
          omega
        · have := f6 (j - 2) (by omega) (by omega)
          rw [show j - 2 + 2 = j by omega] at this
          rw [this]; exact hd _ (by omega)
  obtain ⟨fw, ff⟩ := facts
  have l2 : (2 : Int32) = nI 2 := rfl
  by_cases q : n + 2 ≤ 40 ∧ mxd K c (eN K c - c) + 1 < 12
  · have fd := ff.mpr ((mxd_11 w1).mp q.2)
    have hA' : okP (n + 2, pl, insF (insF K c x) pl 0, insF (insF F c 0) pl 0, insF (insF T c 0) pl 0) := okP_of fw q.1 fd (by omega) (okK_ins (okK_ins ho.1.2.2.2 hxK (fun z => by rw [z] at hx; exact absurd hx (by decide)) (fun z => by rcases z with z | z <;> (rw [z] at hx; exact absurd hx (by decide))) (fun z => by rcases z with z | z; exact absurd z hx5.1; exact absurd z hx5.2) c (by omega)) (Or.inl rfl) (fun z => absurd z (by decide)) (fun z => by rcases z with z | z <;> exact absurd z (by decide)) (fun z => by rcases z with z | z <;> exact absurd z (by decide)) pl (by omega))
    obtain ⟨σ1, σ2, σ4, a1, a2, a3, a4⟩ := IV_yes h hch hA' (op := fun i s => f_Pr_join i x v s) (mop := f_Mo_pair x v) (fun σ1 z => E_join z ho.1.1 q.1 hc v hx hpl) (fun σ2 z => by
      obtain ⟨σ3, b1, b2⟩ := M_pair z ho x v hpl
      obtain ⟨σ4, d1, d2⟩ := MV_yes z ho (by have := h.2.1.2.1; omega) b1 (to := pl) q.1 fw fd
      exact ⟨σ4, by rw [b2, d1, bn_q]; rfl, d2⟩)
    refine ⟨1, σ2, σ4, ?_, rfl, a3, _, _, _, _, _, _, _, Nat.le_refl _, a4⟩
    unfold f_Be_joinHole
    rw [IV_present h, bn_q, gd_t (IV_p h), l2, room, bn_q, if_pos q, if_neg (by decide), a1, bn_q, gd_t (decide_eq_true (Nat.mod_lt _ (by decide)))]
    rw [show f_Pr_join ((p + 1) % 17) x v σ1 = some ((), σ2) from a2, bn_q]
  · obtain ⟨σ4, a1, a2⟩ := IV_no h (mop := f_Mo_pair x v) (by
      obtain ⟨σ3, b1, b2⟩ := M_pair h.2.2.1 ho x v hpl
      obtain ⟨σ4, d1, d2⟩ := MV_no (nI pl) h.2.2.1 ho h.2.1.2.1 b1 (by omega) fw (fun z => q ⟨z.1, (mxd_11 w1).mpr (ff.mp z.2)⟩)
      exact ⟨σ4, by rw [b2, d1, bn_q]; rfl, d2⟩)
    refine ⟨0, σ, σ4, ?_, rfl, a1, _, _, _, _, _, _, _, Nat.le_succ _, a2⟩
    unfold f_Be_joinHole
    rw [IV_present h, bn_q, gd_t (IV_p h), l2, room, bn_q, if_neg q, if_pos rfl]
theorem ok_sum {k : Nat} (hk : k < 900) (hI : Inv TY PC PM k σ) (x : Int32) : Ok TY PC PM (k + 1) σ (f_Be_sum x) (f_Mo_sum x) := by
  obtain ⟨⟨n, c, K, F, T⟩, p, kp, pb, ch, Hs, Ps, hk2, h⟩ := id hI
  obtain ⟨r, σ1, σ2, a1, a2, a3, a4⟩ := IV_join h (by omega) (x := 3) x (by decide) (by unfold isK; decide) (by decide)
  refine ⟨r, σ1, σ2, ?_, ?_, Inv_up a4 (by omega)⟩
  · unfold f_Be_sum
    rw [a1, bn_q, gd_t a2]
  · unfold f_Mo_sum
    rw [a3, bn_q, gd_t a2]
theorem ok_call {k : Nat} (hk : k < 900) (hI : Inv TY PC PM k σ) (x : Int32) : Ok TY PC PM (k + 1) σ (f_Be_call x) (f_Mo_call x) := by
  obtain ⟨⟨n, c, K, F, T⟩, p, kp, pb, ch, Hs, Ps, hk2, h⟩ := id hI
  obtain ⟨r, σ1, σ2, a1, a2, a3, a4⟩ := IV_join h (by omega) (x := 4) x (by decide) (by unfold isK; decide) (by decide)
  refine ⟨r, σ1, σ2, ?_, ?_, Inv_up a4 (by omega)⟩
  · unfold f_Be_call
    rw [a1, bn_q, gd_t a2]
  · unfold f_Mo_call
    rw [a3, bn_q, gd_t a2]
end JOINS
