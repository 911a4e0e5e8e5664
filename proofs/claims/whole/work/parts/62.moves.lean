/-! remove, lift; undo, redo; up, down; kind, terms -/
theorem sI_self (σ : Mem) (c k : Nat) : sI σ c k (σ.1 c k) = σ := by
  have e : upd (σ.1 c) k (σ.1 c k) = σ.1 c := by
    funext j
    by_cases q : j = k
    · rw [q, pk_us]
    · rw [pk_un q]
  show rI σ c _ = σ
  rw [e]
  refine Prod.ext ?_ rfl
  funext a
  by_cases q : a = c
  · rw [q, rI_at]
  · rw [rI_ne q]
theorem okK_spl {n m s e : Nat} {K F XK XF : Nat → Int32} {T XT : Nat → Int64} (h : okK n K F T) (hx : okK m XK XF XT) (hse : s ≤ e) (hen : e ≤ n) : okK (n + m - (e - s)) (spl K XK s e m) (spl F XF s e m) (spl T XT s e m) := fun j hj => by
  unfold spl
  by_cases q1 : j < s
  · rw [if_pos q1, if_pos q1, if_pos q1]
    exact h j (by omega)
  · rw [if_neg q1, if_neg q1, if_neg q1]
    by_cases q2 : j < s + m
    · rw [if_pos q2, if_pos q2, if_pos q2]
      exact hx _ (by omega)
    · rw [if_neg q2, if_neg q2, if_neg q2]
      exact h _ (by omega)
section MOVES
variable {TY : TYt} {PC : PCt} {PM : PMt} {σ : Mem} {n c p kp pb ch : Nat} {K F : Nat → Int32} {T : Nat → Int64} {Hs Ps : Nat → Pg}
theorem M_remove (h : MV σ (n, c, K, F, T) kp pb Hs Ps) (ho : oks (n, c, K, F, T) kp pb Hs Ps) (hkp : kp ≤ 16) (hK : ¬ K c = 0) {n' : Nat} (hn' : n' = n + 1 - (eN K c - c)) (hw' : wf (spl K (fun _ => 0) c (eN K c) 1) n') (hd' : ∀ j, j < n' → dp (spl K (fun _ => 0) c (eN K c) 1) j < 12) : ∃ σ4, f_Mo_remove σ = some (1, σ4) ∧ fr mE σ σ4 ∧ MV σ4 (n', c, spl K (fun _ => 0) c (eN K c) 1, spl F (fun _ => 0) c (eN K c) 1, spl T (fun _ => 0) c (eN K c) 1) (min (kp + 1) 16) 0 (push kp Hs (n, c, K, F, T)) Ps ∧ σ4.1 15 12 = 0 ∧ σ4.1 15 16 = 0 ∧ ∀ q, q ≠ 0 → q ≠ 5 → q ≠ 6 → q ≠ 1 → q ≠ 12 → q ≠ 16 → σ4.1 15 q = σ.1 15 q := by
  have hn : n ≤ 40 := ho.1.2.1
  have hc : c < n := ho.1.2.2.1
  have hw : wf K n := okP_wf ho.1
  obtain ⟨_, w1, w2⟩ := wf_at hw hc
  obtain ⟨u1, u2⟩ := atM_cu h.1 hc
  obtain ⟨σ3, a1, a2⟩ := s_Mo_begin h.1 hn
  obtain ⟨σ8, b1, b2⟩ := begun_take a2 hn (a := c + 1) (b := eN K c) (by omega) w2 (by show n ≤ 48; omega)
  replace b2 : begun σ σ8 (n, c, K, F, T) (n - (eN K c - (c + 1))) (tk K (c + 1) (eN K c)) (tk F (c + 1) (eN K c)) (tk T (c + 1) (eN K c)) := b2
  obtain ⟨σ10, e10⟩ : ∃ s, s = sI σ8 16 c 0 := ⟨_, rfl⟩
  have h10 : σ10.1 15 = σ8.1 15 := by rw [e10, rI_ne (by decide)]
  have hb : begun σ σ10 (n, c, K, F, T) n' (spl K (fun _ => 0) c (eN K c) 1) (spl F (fun _ => 0) c (eN K c) 1) (spl T (fun _ => 0) c (eN K c) 1) := by
    have hnn : n' = n - (eN K c - (c + 1)) := by omega
    rw [hnn]
    refine begun_tr b2 hn (σ2 := σ10) (by rw [e10]; exact fr_rI _ _ (Or.inr (Or.inl rfl))) (by rw [h10]; exact b2.2.2.2.1) (fun q _ => by rw [h10]) ?_
    have k1 : σ10.1 16 = upd (σ8.1 16) c 0 := by rw [e10, rI_at]
    have k2 : σ10.1 17 = σ8.1 17 := by rw [e10, rI_ne (by decide)]
    have k3 : σ10.2 18 = σ8.2 18 := by rw [e10]; rfl
    rw [k1, k2, k3]
    intro j hj
    obtain ⟨x1, x2, x3⟩ := b2.2.2.2.2.2 j hj
    by_cases q : j = c
    · rw [q, pk_us]
      have e : spl K (fun _ => (0 : Int32)) c (eN K c) 1 c = 0 := spl_b (j := 0) (by decide)
      rw [e]
      exact ⟨rfl, fun u => absurd u (by unfold usF; decide), fun u => absurd u (by unfold usT; decide)⟩
    · rw [pk_un q]
      have ee : ∀ {α : Type} (x : Nat → α) (v : α), spl x (fun _ => v) c (eN K c) 1 j = tk x (c + 1) (eN K c) j := fun x v => by
        unfold spl tk
        by_cases z : j < c
        · rw [if_pos z, if_pos (by omega)]
        · rw [if_neg z, if_neg (by omega), if_neg (by omega)]
          congr 1; omega
      rw [ee, ee, ee]
      exact ⟨x1, x2, x3⟩
  obtain ⟨σ4, d1, d2⟩ := MV_yes h ho hkp hb (to := c) (by omega) hw' hd'
  refine ⟨σ4, ?_, d2⟩
  unfold f_Mo_remove
  rw [u1, gd_t (inb_nI (by omega) (by decide)), nI_cl (by omega), u2, if_neg hK, a1, bn_q, be_cu h.1 a2, s_Mo_end (n := n) (K := K) (by omega) (fun j hj => (a2.2.2.2.2.2 j hj).1) hw hc, bn_q, nI_1, b1, bn_q, be_cu h.1 b2, gd_t (inb_nI (by omega) (by decide)), nI_cl (by omega)]
  simp only [lt_]
  rw [← e10, h10, be_cu h.1 b2, d1, bn_q]
  rfl
theorem ok_remove {k : Nat} (hk : k < 900) (hI : Inv TY PC PM k σ) : Ok TY PC PM (k + 1) σ f_Be_remove f_Mo_remove := by
  obtain ⟨⟨n, c, K, F, T⟩, p, kp, pb, ch, Hs, Ps, hk2, h⟩ := id hI
  have ho := h.1
  have hn : n ≤ 40 := ho.1.2.1
  have hc : c < n := ho.1.2.2.1
  have hw : wf K n := okP_wf ho.1
  have hd := okP_dp ho.1
  obtain ⟨_, w1, w2⟩ := wf_at hw hc
  by_cases q : K c = 0
  · refine Ok_same hI (r := 0) ?_ ?_
    · unfold f_Be_remove
      rw [IV_present h, bn_q, gd_t (IV_p h), s_Pr_isOnHole h.2.1.2.2.2.1 hn hc, bn_q, if_pos q, if_neg (by decide)]
    · obtain ⟨u1, u2⟩ := atM_cu h.2.2.1.1 hc
      unfold f_Mo_remove
      rw [u1, gd_t (inb_nI (by omega) (by decide)), nI_cl (by omega), u2, if_pos q]
  · obtain ⟨f1, f2, f3, f4⟩ := emp hw ho.1.1 (by decide) hc
    have fd : ∀ j, j < n + 1 - (eN K c - c) → dp (spl K (fun _ => 0) c (eN K c) 1) j < 12 := fun j hj => by
      by_cases z1 : j < c
      · rw [f2 j z1]; exact hd j (by omega)
      by_cases z2 : j = c
      · rw [z2, f3]; exact hd c hc
      · have := f4 (j + eN K c - (c + 1)) (by omega) (by omega)
        rw [show j + eN K c - (c + 1) + (c + 1) - eN K c = j by omega] at this
        rw [this]; exact hd _ (by omega)
    have hA' : okP (n + 1 - (eN K c - c), c, spl K (fun _ => 0) c (eN K c) 1, spl F (fun _ => 0) c (eN K c) 1, spl T (fun _ => 0) c (eN K c) 1) := okP_of f1 (by omega) fd (by omega) (okK_spl ho.1.2.2.2 (fun j hj => ⟨Or.inl rfl, fun z => absurd z (by decide), fun z => by rcases z with z | z <;> exact absurd z (by decide), fun z => by rcases z with z | z <;> exact absurd z (by decide)⟩) (by omega) w2)
    obtain ⟨σ1, σ2, σ4, a1, a2, a3, a4⟩ := IV_yes h (by omega) hA' (op := fun i s => f_Pr_empty i s) (mop := f_Mo_remove) (fun σ1 w => E_empty w ho.1.1 hn hc) (fun σ2 w => M_remove w ho (by have := h.2.1.2.1; omega) q rfl f1 fd)
    refine ⟨1, σ2, σ4, ?_, a3, _, _, _, _, _, _, _, by omega, a4⟩
    unfold f_Be_remove
    rw [IV_present h, bn_q, gd_t (IV_p h), s_Pr_isOnHole h.2.1.2.2.2.1 hn hc, bn_q, if_neg q, if_pos rfl, a1, bn_q, gd_t (decide_eq_true (Nat.mod_lt _ (by decide)))]
    rw [show f_Pr_empty ((p + 1) % 17) σ1 = some ((), σ2) from a2, bn_q]
theorem oI_ge {m : Nat} (h : m < 2 ^ 31) : (0 : Int32) ≤ oI (some m) := nI_pos' h
theorem oI_no : ¬ (0 : Int32) ≤ oI none := by decide
theorem M_lift (h : MV σ (n, c, K, F, T) kp pb Hs Ps) (ho : oks (n, c, K, F, T) kp pb Hs Ps) (hkp : kp ≤ 16) {q : Nat} (hq : up1 K c c = some q) (hqc : q < c) (hqe : c < eN K q) {n' : Nat} (hn' : n' = n + (eN K c - c) - (eN K q - q)) (hw' : wf (spl K (fun j => K (c + j)) q (eN K q) (eN K c - c)) n') (hd' : ∀ j, j < n' → dp (spl K (fun j => K (c + j)) q (eN K q) (eN K c - c)) j < 12) : ∃ σ4, f_Mo_lift σ = some (1, σ4) ∧ fr mE σ σ4 ∧ MV σ4 (n', q, spl K (fun j => K (c + j)) q (eN K q) (eN K c - c), spl F (fun j => F (c + j)) q (eN K q) (eN K c - c), spl T (fun j => T (c + j)) q (eN K q) (eN K c - c)) (min (kp + 1) 16) 0 (push kp Hs (n, c, K, F, T)) Ps ∧ σ4.1 15 12 = 0 ∧ σ4.1 15 16 = 0 ∧ ∀ q, q ≠ 0 → q ≠ 5 → q ≠ 6 → q ≠ 1 → q ≠ 12 → q ≠ 16 → σ4.1 15 q = σ.1 15 q := by
  have hn : n ≤ 40 := ho.1.2.1
  have hc : c < n := ho.1.2.2.1
  have hw : wf K n := okP_wf ho.1
  obtain ⟨_, w1, w2⟩ := wf_at hw hc
  obtain ⟨_, v1, v2⟩ := wf_at hw (i := q) (by omega)
  have w3 := wf_in hw (i := q) (j := c) (by omega) (by omega) hqe
  obtain ⟨u1, u2⟩ := atM_cu h.1 hc
  obtain ⟨σ5, a1, a2⟩ := s_Mo_begin h.1 hn
  obtain ⟨σ13, b1, b2⟩ := begun_take a2 hn (a := eN K c) (b := eN K q) w3 v2 (by show n ≤ 48; omega)
  replace b2 : begun σ σ13 (n, c, K, F, T) (n - (eN K q - eN K c)) (tk K (eN K c) (eN K q)) (tk F (eN K c) (eN K q)) (tk T (eN K c) (eN K q)) := b2
  obtain ⟨σ15, c1, c2⟩ := begun_take b2 hn (a := q) (b := c) (by omega) (by omega) (by omega)
  have ee : ∀ {α : Type} (x : Nat → α) (j : Nat), j < n' → spl x (fun j => x (c + j)) q (eN K q) (eN K c - c) j = tk (tk x (eN K c) (eN K q)) q c j := fun x j hj => by
    unfold spl tk
    by_cases z : j < q
    · rw [if_pos z, if_pos z, if_pos (by omega)]
    · rw [if_neg z, if_neg z]
      by_cases y : j < q + (eN K c - c)
      · rw [if_pos y, if_pos (by omega)]
        show x (c + (j - q)) = x (j + (c - q))
        congr 1; omega
      · rw [if_neg y, if_neg (by omega)]
        congr 1; omega
  have hb : begun σ σ15 (n, c, K, F, T) n' (spl K (fun j => K (c + j)) q (eN K q) (eN K c - c)) (spl F (fun j => F (c + j)) q (eN K q) (eN K c - c)) (spl T (fun j => T (c + j)) q (eN K q) (eN K c - c)) :=
    begun_to c2 (by omega) (fun j hj => ee K j (by omega)) (fun j hj _ => ee F j (by omega)) (fun j hj _ => ee T j (by omega))
  obtain ⟨σ4, d1, d2⟩ := MV_yes h ho hkp hb (to := q) (by omega) hw' hd'
  refine ⟨σ4, ?_, d2⟩
  have hR := fun j hj => (h.1.2.2 j hj).1
  have hR5 := fun j hj => (a2.2.2.2.2.2 j hj).1
  unfold f_Mo_lift
  rw [u1, s_Mo_above (n := n) (K := K) (by omega) hR hw hc, bn_q, hq, if_pos (oI_ge (by omega)), a1, bn_q]
  show bn (f_Mo_end (nI q) σ5) _ = _
  rw [s_Mo_end (n := n) (K := K) (by omega) hR5 hw (a := q) (by omega), bn_q, be_cu h.1 a2, s_Mo_end (n := n) (K := K) (by omega) hR5 hw hc, bn_q, b1, bn_q, be_cu h.1 b2]
  show bn (f_Mo_takeOut (nI q) (nI c) σ13) _ = _
  rw [c1, bn_q]
  show bn (f_Mo_done (nI q) σ15) _ = _
  rw [d1, bn_q]
  rfl
theorem ok_lift {k : Nat} (hk : k < 900) (hI : Inv TY PC PM k σ) : Ok TY PC PM (k + 1) σ f_Be_lift f_Mo_lift := by
  obtain ⟨⟨n, c, K, F, T⟩, p, kp, pb, ch, Hs, Ps, hk2, h⟩ := id hI
  have ho := h.1
  have hn : n ≤ 40 := ho.1.2.1
  have hc : c < n := ho.1.2.2.1
  have hw : wf K n := okP_wf ho.1
  have hd := okP_dp ho.1
  have ec : σ.1 (cP p) 5 = nI c := h.2.1.2.2.2.1.2.1
  by_cases q0 : c = 0
  · subst q0
    refine Ok_same hI (r := 0) ?_ ?_
    · unfold f_Be_lift
      rw [IV_present h, bn_q, gd_t (IV_p h), ec, if_pos (show nI 0 = 0 from rfl)]
    · obtain ⟨u1, u2⟩ := atM_cu h.2.2.1.1 hc
      unfold f_Mo_lift
      rw [u1, s_Mo_above (n := n) (K := K) (by omega) (fun j hj => (h.2.2.1.1.2.2 j hj).1) hw hc, bn_q]
      exact if_neg oI_no
  · obtain ⟨q, hq, hqc, hqe, hqk, hqd⟩ := up_ex hw (by omega) hc
    obtain ⟨_, w1, w2⟩ := wf_at hw hc
    obtain ⟨_, v1, v2⟩ := wf_at hw (i := q) (by omega)
    have w3 := wf_in hw (i := q) (j := c) (by omega) (by omega) hqe
    obtain ⟨f1, f2, f3, f4⟩ := lif hw ho.1.1 (by decide) hc (p := q) (by omega)
    have fd : ∀ j, j < n + (eN K c - c) - (eN K q - q) → dp (spl K (fun j => K (c + j)) q (eN K q) (eN K c - c)) j < 12 := fun j hj => by
      by_cases z1 : j < q
      · rw [f2 j z1]; exact hd j (by omega)
      by_cases z2 : j < q + (eN K c - c)
      · have := f3 (j - q) (by omega)
        rw [show q + (j - q) = j by omega] at this
        have := hd (c + (j - q)) (by omega)
        omega
      · have := f4 (j + eN K q - (q + (eN K c - c))) (by omega) (by omega)
        rw [show j + eN K q - (q + (eN K c - c)) + (q + (eN K c - c)) - eN K q = j by omega] at this
        rw [this]; exact hd _ (by omega)
    have hA' : okP (n + (eN K c - c) - (eN K q - q), q, spl K (fun j => K (c + j)) q (eN K q) (eN K c - c), spl F (fun j => F (c + j)) q (eN K q) (eN K c - c), spl T (fun j => T (c + j)) q (eN K q) (eN K c - c)) := okP_of f1 (by omega) fd (by omega) (okK_spl ho.1.2.2.2 (fun j hj => ho.1.2.2.2 (c + j) (by show c + j < n; omega)) (by omega) v2)
    obtain ⟨σ1, σ2, σ4, a1, a2, a3, a4⟩ := IV_yes h (by omega) hA' (op := fun i s => f_Pr_raise i s) (mop := f_Mo_lift) (fun σ1 w => E_raise w ho.1.1 hn (by omega) hc hq) (fun σ2 w => M_lift w ho (by have := h.2.1.2.1; omega) hq hqc hqe rfl f1 fd)
    refine ⟨1, σ2, σ4, ?_, a3, _, _, _, _, _, _, _, by omega, a4⟩
    unfold f_Be_lift
    rw [IV_present h, bn_q, gd_t (IV_p h), ec, if_neg (nI_ne0 (by omega) (by omega)), a1, bn_q, gd_t (decide_eq_true (Nat.mod_lt _ (by decide)))]
    rw [show f_Pr_raise ((p + 1) % 17) σ1 = some ((), σ2) from a2, bn_q]
end MOVES
