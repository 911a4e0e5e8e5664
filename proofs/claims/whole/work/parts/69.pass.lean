/-! the reference's typing: one visit, one pass, all passes -/
def st (σ : Mem) : St := (σ.2 24, σ.2 25, σ.1 26)
def mT (c : Nat) : Prop := c = 24 ∨ c = 25 ∨ c = 26
/-- a visit's stores -/
def vs (σ : Mem) (p : Nat) (w g : Int64) (m : Int32) : Mem := sI (sL (sL σ 25 p w) 24 p g) 26 p m
theorem vL_us {f : Nat → Int64} {k : Nat} {x : Int64} : vp_updL f k x k = x := by unfold vp_updL; simp
theorem vL_un {f : Nat → Int64} {k j : Nat} {x : Int64} (h : j ≠ k) : vp_updL f k x j = f j := by unfold vp_updL; simp [h]
theorem st_vs (σ : Mem) (p : Nat) (w g : Int64) (m : Int32) : st (vs σ p w g m) = (vp_updL (σ.2 24) p g, vp_updL (σ.2 25) p w, upd (σ.1 26) p m) := by
  unfold st vs
  have e1 : (sI (sL (sL σ 25 p w) 24 p g) 26 p m).2 24 = vp_updL (σ.2 24) p g := by
    show (sL (sL σ 25 p w) 24 p g).2 24 = _
    rw [rL_at, rL_ne (by decide)]
  have e2 : (sI (sL (sL σ 25 p w) 24 p g) 26 p m).2 25 = vp_updL (σ.2 25) p w := by
    show (sL (sL σ 25 p w) 24 p g).2 25 = _
    rw [rL_ne (by decide), rL_at]
  have e3 : (sI (sL (sL σ 25 p w) 24 p g) 26 p m).1 26 = upd (σ.1 26) p m := by rw [rI_at]; rfl
  rw [e1, e2, e3]
theorem fr_vs (σ : Mem) (p : Nat) (w g : Int64) (m : Int32) : fr mT σ (vs σ p w g m) := fr_tr (fr_tr (fr_rL _ _ (Or.inr (Or.inl rfl))) (fr_rL _ _ (Or.inl rfl))) (fr_rI _ _ (Or.inr (Or.inr rfl)))
theorem rowM_fr {σ σ' : Mem} {n : Nat} {K F : Nat → Int32} {T : Nat → Int64} (h : rowM σ n K F T) (hf : fr mT σ σ') : rowM σ' n K F T := by
  unfold rowM
  rw [(hf 16 (by unfold mT; omega)).1, (hf 17 (by unfold mT; omega)).1, (hf 18 (by unfold mT; omega)).2]
  exact h
section PASS
variable {n : Nat} {K F : Nat → Int32} {T : Nat → Int64} {σ : Mem}
theorem H_ok {s : St} (hv : vE n s) {j : Nat} (hj : j + 1 < n) : okT (H_ s j) := has_ok (hv (j + 1) hj).1
theorem ar_45 {k : Int32} (h : k = 4 ∨ k = 5) : ar k ≠ 0 := by rcases h with rfl | rfl <;> decide
theorem nx_lt (hw : wf K n) {j : Nat} (hj : j < n) (ha : ar (K j) ≠ 0) : j + 1 < n := by
  have := (up_first hw hj ha).2
  have := (wf_at hw hj).2.2
  omega
theorem wE_ok (hw : wf K n) (hk : okK n K F T) {s : St} (hv : vE n s) {p : Nat} (hp : p < n) : okW (wE K T s p) := by
  unfold wE
  cases h : up1 K p p with
  | none => exact Or.inl rfl
  | some q =>
    obtain ⟨h1, h2, h3⟩ := up1_some h
    have ha : ar (K q) ≠ 0 := fun z => by have := wf_ar0 hw (i := q) (by omega) z; omega
    exact wF_ok (by omega) hk (fun _ => H_ok hv (nx_lt hw (by omega) ha)) (hv q (by omega)).2 ha
theorem s_visit (hn : n ≤ 40) (hR : rowM σ n K F T) (hw : wf K n) (hk : okK n K F T) (hv : vE n (st σ)) {p : Nat} (hp : p < n) (fl : Int32) : ∃ w g m fl', w = wE K T (st σ) p ∧ g = gF K F T (H_ (st σ) p) p ∧ m = mF K F T (H_ (st σ) p) w g p ∧ f_Mo_type_L65 fl (nI p) σ = some (.inl (fl', nI p + (-1), vs σ p w g m)) ∧ (fl' = 0 ↔ fl = 0 ∧ w = σ.2 25 p ∧ g = σ.2 24 p ∧ m = σ.1 26 p) := by
  have hR' : ∀ j, j < n → σ.1 16 j = K j := fun j hj => (hR j hj).1
  obtain ⟨w, hwe⟩ : ∃ w, w = wE K T (st σ) p := ⟨_, rfl⟩
  obtain ⟨g, hge⟩ : ∃ g, g = gF K F T (H_ (st σ) p) p := ⟨_, rfl⟩
  obtain ⟨m, hme⟩ : ∃ m, m = mF K F T (H_ (st σ) p) w g p := ⟨_, rfl⟩
  have hwk : okW w := by rw [hwe]; exact wE_ok hw hk hv hp
  have hgk : okT g := by rw [hge]; exact gF_ok hp hk (fun z => H_ok hv (nx_lt hw hp (ar_45 z)))
  have got : f_Mo_gotOf (nI p) σ = some (g, σ) := by
    rw [hge]
    exact s_Mo_gotOf hn hR hw hk hp (fun z => H_ok hv (nx_lt hw hp (ar_45 z)))
  -- behind the stores of w and g
  obtain ⟨σ7, e7⟩ : ∃ s, s = sL (sL σ 25 p w) 24 p g := ⟨_, rfl⟩
  have f7 : fr mT σ σ7 := by rw [e7]; exact fr_tr (fr_rL _ _ (Or.inr (Or.inl rfl))) (fr_rL _ _ (Or.inl rfl))
  have c24 : σ7.2 24 = vp_updL (σ.2 24) p g := by rw [e7, rL_at, rL_ne (by decide)]
  have c25 : σ7.2 25 = vp_updL (σ.2 25) p w := by rw [e7, rL_ne (by decide), rL_at]
  have c26 : σ7.1 26 = σ.1 26 := by rw [e7]; rfl
  have mk : f_Mo_markOf (nI p) σ7 = some (m, σ7) := by
    have := s_Mo_markOf (σ := σ7) hn (rowM_fr hR f7) hw hk hp (by rw [c24, vL_us]; exact hgk) (by rw [c25, vL_us]; exact hwk)
    rw [this, c24, c25, c26, vL_us, vL_us, vL_un (by omega), hme]
    rfl
  have J145 : ∀ (v1 : Int32) (v3 : Int32) (u0 : Int32), ∃ fl', f_Mo_type_J145 v1 (nI p) v3 w g u0 σ = some (.inl (fl', nI p + (-1), vs σ p w g m)) ∧ (fl' = 0 ↔ u0 = 0 ∧ m = σ.1 26 p) := fun v1 v3 u0 => by
    unfold f_Mo_type_J145 f_Mo_type_J184 f_Mo_type_J189
    simp only [lt_]
    rw [gd_t (inb_nI (by omega) (by decide)), gd_t (inb_nI (by omega) (by decide)), nI_cl (by omega), ← e7, mk, bn_q]
    have fin : ∀ u : Int32, gd (inb (nI p) 48) (some (Sum.inl (u, nI p + (-1), sI σ7 26 p m)) : Option ((Int32 × Int32 × Mem) ⊕ ((Int32 × Mem) ⊕ (Unit × Mem)))) = some (.inl (u, nI p + (-1), vs σ p w g m)) := fun u => by
      rw [gd_t (inb_nI (by omega) (by decide)), e7]
      rfl
    by_cases q : u0 = 0
    · rw [if_pos q, gd_t (inb_nI (by omega) (by decide)), c26]
      by_cases z : m = σ.1 26 p
      · rw [if_pos z]
        exact ⟨0, fin 0, ⟨fun _ => ⟨q, z⟩, fun _ => rfl⟩⟩
      · rw [if_neg z]
        exact ⟨1, fin 1, ⟨fun y => absurd y (by decide), fun y => absurd y.2 z⟩⟩
    · rw [if_neg q]
      exact ⟨1, fin 1, ⟨fun y => absurd y (by decide), fun y => absurd y.1 q⟩⟩
  have J103 : ∀ v3 : Int32, ∃ fl', f_Mo_type_J103 fl (nI p) v3 w σ = some (.inl (fl', nI p + (-1), vs σ p w g m)) ∧ (fl' = 0 ↔ fl = 0 ∧ w = σ.2 25 p ∧ g = σ.2 24 p ∧ m = σ.1 26 p) := fun v3 => by
    unfold f_Mo_type_J103 f_Mo_type_J140
    rw [got, bn_q]
    by_cases q : fl = 0
    · rw [if_pos q, gd_t (inb_nI (by omega) (by decide)), nI_cl (by omega), gd_t (inb_nI (by omega) (by decide))]
      by_cases z : w = σ.2 25 p
      · rw [if_pos (cmp0.mpr z)]
        by_cases y : g = σ.2 24 p
        · rw [if_pos (cmp0.mpr y)]
          obtain ⟨fl', a, b⟩ := J145 fl v3 0
          exact ⟨fl', a, b.trans ⟨fun x => ⟨q, z, y, x.2⟩, fun x => ⟨rfl, x.2.2.2⟩⟩⟩
        · rw [if_neg (fun x => y (cmp0.mp x))]
          obtain ⟨fl', a, b⟩ := J145 fl v3 1
          exact ⟨fl', a, b.trans ⟨fun x => absurd x.1 (by decide), fun x => absurd x.2.2.1 y⟩⟩
      · rw [if_neg (fun x => z (cmp0.mp x))]
        obtain ⟨fl', a, b⟩ := J145 fl v3 1
        exact ⟨fl', a, b.trans ⟨fun x => absurd x.1 (by decide), fun x => absurd x.2.1 z⟩⟩
    · rw [if_neg q]
      obtain ⟨fl', a, b⟩ := J145 fl v3 1
      exact ⟨fl', a, b.trans ⟨fun x => absurd x.1 (by decide), fun x => absurd x.1 q⟩⟩
  have top : ∃ v3, f_Mo_type_L65 fl (nI p) σ = f_Mo_type_J103 fl (nI p) v3 w σ := by
    unfold f_Mo_type_L65 f_Mo_type_J100
    rw [if_neg (nI_pos (by omega)), s_Mo_above (n := n) (K := K) (by omega) hR' hw hp, bn_q]
    cases h : up1 K p p with
    | none =>
      rw [if_neg oI_no]
      refine ⟨-1, ?_⟩
      rw [hwe]
      unfold wE
      rw [h]
      rfl
    | some q =>
      obtain ⟨h1, h2, h3⟩ := up1_some h
      have ha : ar (K q) ≠ 0 := fun z => by have := wf_ar0 hw (i := q) (by omega) z; omega
      have hq1 := nx_lt hw (by omega) ha
      refine ⟨nI q, ?_⟩
      rw [if_pos (oI_ge (by omega)), oI_n, s_Mo_part (n := n) (K := K) (by omega) hR' hw 0 hq1, bn_q, if_pos rfl]
      have wo := fun v => s_Mo_wantedOf hn hR hk (j := q) (by omega) ha (fun _ => H_ok hv hq1) (hv q (by omega)).2 v
      have hwq : w = wF K T (H_ (st σ) q) (σ.2 25 q) q (if q + 1 = p then 0 else 1) := by
        rw [hwe]
        unfold wE
        rw [h]
        rfl
      by_cases z : q + 1 = p
      · rw [if_pos (by rw [z]), wo, bn_q, hwq, if_pos z]
        rfl
      · rw [if_neg (fun y => z ((nI_eq (by omega) (by omega)).mp y)), wo, bn_q, hwq, if_neg z]
        rfl
  obtain ⟨v3, tp⟩ := top
  obtain ⟨fl', a, b⟩ := J103 v3
  exact ⟨w, g, m, fl', hwe, hge, hme, tp.trans a, b⟩
/-- a pass, from the last place down -/
theorem s_pass (hn : n ≤ 40) (hw : wf K n) (hk : okK n K F T) {σ0 : Mem} (hR : rowM σ0 n K F T) (hv0 : vE n (st σ0)) : ∀ (c : Nat) (fl : Int32) (σ : Mem), c ≤ n → fr mT σ0 σ → vE n (st σ) → (∀ j, j < c → sm (st σ) (st σ0) j) → (∀ j, c ≤ j → j < n → rE K F T (st σ0) (st σ) j) → (fl = 0 ↔ ∀ j, c ≤ j → j < n → sm (st σ) (st σ0) j) → ∃ fl' σ', loopF (fun (q : (Int32 × Int32 × Mem)) => f_Mo_type_L65 q.1 q.2.1 q.2.2) (c + 1) (fl, nI c + (-1), σ) = some (.inl (fl', σ')) ∧ fr mT σ0 σ' ∧ vE n (st σ') ∧ rEs n K F T (st σ0) (st σ') ∧ (fl' = 0 ↔ ∀ j, j < n → sm (st σ') (st σ0) j) := by
  intro c
  induction c with
  | zero =>
    intro fl σ hc hf hv hs hr hfl
    refine ⟨fl, σ, lp_exit ?_, hf, hv, fun j hj => hr j (Nat.zero_le _) hj, hfl.trans ⟨fun x j hj => x j (Nat.zero_le _) hj, fun x j _ hj => x j hj⟩⟩
    show f_Mo_type_L65 fl (nI 0 + (-1)) σ = _
    unfold f_Mo_type_L65
    rw [if_pos (by decide)]
    rfl
  | succ c ih =>
    intro fl σ hc hf hv hs hr hfl
    obtain ⟨w, g, m, fl', e1, e2, e3, e4, e5⟩ := s_visit hn (rowM_fr hR hf) hw hk hv (p := c) (by omega) fl
    have hst := st_vs σ c w g m
    have hw0 : wE K T (st σ) c = wE K T (st σ0) c := by
      unfold wE
      cases h : up1 K c c with
      | none => rfl
      | some q =>
        obtain ⟨h1, h2, h3⟩ := up1_some h
        obtain ⟨a1, a2, a3⟩ := hs q (by omega)
        obtain ⟨b1, b2, b3⟩ := hs (q + 1) (by omega)
        show wF K T (H_ (st σ) q) ((st σ).2.1 q) q _ = wF K T (H_ (st σ0) q) ((st σ0).2.1 q) q _
        unfold H_
        rw [a2, b1, b3]
    have oth : ∀ j, j ≠ c → sm (st (vs σ c w g m)) (st σ) j := fun j hj => by
      rw [hst]
      exact ⟨vL_un hj, vL_un hj, pk_un hj⟩
    have own : (st (vs σ c w g m)).1 c = g ∧ (st (vs σ c w g m)).2.1 c = w ∧ (st (vs σ c w g m)).2.2 c = m := by
      rw [hst]
      exact ⟨vL_us, vL_us, pk_us⟩
    have Hc : H_ (st (vs σ c w g m)) c = H_ (st σ) c := by
      obtain ⟨a1, a2, a3⟩ := oth (c + 1) (by omega)
      unfold H_
      rw [a1, a3]
    have hwk : okW w := by rw [e1]; exact wE_ok hw hk hv (by omega)
    have hgk : okT g := by rw [e2]; exact gF_ok (by omega) hk (fun z => H_ok hv (nx_lt hw (by omega) (ar_45 z)))
    have A := ih fl' (vs σ c w g m) (by omega) (fr_tr hf (fr_vs σ c w g m)) (fun j hj => by
        by_cases q : j = c
        · rw [q, own.1, own.2.1]; exact ⟨hgk, hwk⟩
        · obtain ⟨a1, a2, a3⟩ := oth j q
          rw [a1, a2]; exact hv j hj) (fun j hj => by
        obtain ⟨a1, a2, a3⟩ := oth j (by omega)
        obtain ⟨b1, b2, b3⟩ := hs j (by omega)
        exact ⟨a1.trans b1, a2.trans b2, a3.trans b3⟩) (fun j hj hj2 => by
        by_cases q : j = c
        · rw [q]
          refine ⟨?_, ?_, ?_⟩
          · rw [own.2.1, e1, hw0]
          · rw [own.1, Hc, e2]
          · rw [own.2.2, own.2.1, own.1, Hc, e3]
        · obtain ⟨a1, a2, a3⟩ := oth j q
          obtain ⟨b1, b2, b3⟩ := hr j (by omega) hj2
          have Hj : H_ (st (vs σ c w g m)) j = H_ (st σ) j := by
            obtain ⟨x1, x2, x3⟩ := oth (j + 1) (by omega)
            unfold H_
            rw [x1, x3]
          refine ⟨?_, ?_, ?_⟩
          · rw [a2, b1]
          · rw [a1, Hj, b2]
          · rw [a3, a2, a1, Hj, b3]) (by
        rw [e5, hfl]
        obtain ⟨b1, b2, b3⟩ := hs c (by omega)
        constructor
        · rintro ⟨x1, x2, x3, x4⟩ j hj hj2
          by_cases q : j = c
          · rw [q]
            exact ⟨by rw [own.1, x3]; exact b1, by rw [own.2.1, x2]; exact b2, by rw [own.2.2, x4]; exact b3⟩
          · obtain ⟨a1, a2, a3⟩ := oth j q
            obtain ⟨y1, y2, y3⟩ := x1 j (by omega) hj2
            exact ⟨a1.trans y1, a2.trans y2, a3.trans y3⟩
        · intro x
          refine ⟨fun j hj hj2 => ?_, ?_⟩
          · obtain ⟨a1, a2, a3⟩ := oth j (by omega)
            obtain ⟨y1, y2, y3⟩ := x j (by omega) hj2
            exact ⟨a1.symm.trans y1, a2.symm.trans y2, a3.symm.trans y3⟩
          · obtain ⟨y1, y2, y3⟩ := x c (Nat.le_refl _) (by omega)
            rw [own.1] at y1
            rw [own.2.1] at y2
            rw [own.2.2] at y3
            exact ⟨y2.trans b2.symm, y1.trans b1.symm, y3.trans b3.symm⟩)
    obtain ⟨fl2, σ', c1, c2, c3, c4, c5⟩ := A
    refine ⟨fl2, σ', lp_step (b := (fl', nI c + (-1), vs σ c w g m)) ?_ c1, c2, c3, c4, c5⟩
    show f_Mo_type_L65 fl (nI (c + 1) + (-1)) σ = _
    rw [pk_m1]
    exact e4
end PASS
