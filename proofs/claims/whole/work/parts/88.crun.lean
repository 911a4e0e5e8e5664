/-! the class runs a term -/
def cRn (c : Nat) : Prop := 11 ≤ c ∧ c ≤ 14
def frR (σ σ' : Mem) : Prop := fr cRn σ σ' ∧ σ'.1 11 5 = σ.1 11 5
theorem frR_rf (σ : Mem) : frR σ σ := ⟨fr_rf _ _, rfl⟩
theorem frR_tr {a b c : Mem} (h1 : frR a b) (h2 : frR b c) : frR a c := ⟨fr_tr h1.1 h2.1, h2.2.trans h1.2⟩
def RepC (σ : Mem) (s : Sr) : Prop := σ.1 11 3 = nI s.2.1 ∧ σ.1 11 4 = nI s.1 ∧ ∀ j, 1 ≤ j → j ≤ s.2.1 → σ.1 12 j = s.2.2.1 j ∧ σ.2 13 j = pkV (s.2.2.2.1 j) ∧ σ.1 14 j = nI (s.2.2.2.2 j)
def CRm (p n : Nat) (K F : Nat → Int32) (T : Nat → Int64) (M : Nat → Int32) (σ : Mem) : Prop := RC p n K F T σ ∧ ∀ j, j < n → σ.1 6 j = M j
section CRUN
variable {p n : Nat} {K F M : Nat → Int32} {T : Nat → Int64}
theorem CRm_R {σ σ' : Mem} (h : CRm p n K F T M σ) (hf : frR σ σ') : CRm p n K F T M σ' := by
  have g : ∀ c, 44 ≤ c ∨ c = 6 → σ'.1 c = σ.1 c ∧ σ'.2 c = σ.2 c := fun c a => hf.1 c (by unfold cRn; omega)
  refine ⟨?_, by rw [(g 6 (Or.inr rfl)).1]; exact h.2⟩
  unfold RC rowC
  rw [(g (cP p) (by unfold cP; omega)).1, (g (cPk p) (by unfold cPk; omega)).1, (g (cPl p) (by unfold cPl; omega)).1, (g (cPf p) (by unfold cPf; omega)).1, (g (cPt p) (by unfold cPt; omega)).2]
  exact h.1
theorem s_stands {σ : Mem} {s : Sr} (hs : sS n K s) (hB : s.2.1 ≤ 133) (hR : RepC σ s) (x v2 : Int32) : ∀ (e i c : Nat), i + e = 12 → c ≤ s.2.1 → loopF (fun (q : (Int32 × Int32 × Mem)) => f_Ma_standsFor_L5 x v2 q.1 q.2.1 q.2.2) (e + 1) (nI c, nI i, σ) = some (pkV (lk s x e c), σ) := by
  intro e
  induction e with
  | zero =>
    intro i c hi hc
    refine lp_exit ?_
    show f_Ma_standsFor_L5 x v2 (nI c) (nI i) σ = some (.inr (pkV (2, 0, 0), σ))
    unfold f_Ma_standsFor_L5 f_Ma_standsFor_J46
    rw [show i = 12 by omega, if_pos (by decide), pv_dark, bn_q]
    rfl
  | succ e ih =>
    intro i c hi hc
    have el : lk s x (e + 1) c = if c = 0 then (2, 0, 0) else if s.2.2.1 c = x then s.2.2.2.1 c else lk s x e (s.2.2.2.2 c) := rfl
    rw [el]
    have i12 : ¬ (12 : Int32) ≤ nI i := fun z => by have := (nIle (a := 12) (by decide) (by omega)).mp z; omega
    by_cases z : c = 0
    · rw [if_pos z]
      refine lp_exit ?_
      show f_Ma_standsFor_L5 x v2 (nI c) (nI i) σ = some (.inr (pkV (2, 0, 0), σ))
      unfold f_Ma_standsFor_L5 f_Ma_standsFor_J46
      rw [if_neg i12, z, if_pos (by decide), pv_dark, bn_q]
      rfl
    · rw [if_neg z]
      obtain ⟨r1, r2, r3⟩ := hR.2.2 c (by omega) hc
      by_cases y : s.2.2.1 c = x
      · rw [if_pos y]
        refine lp_exit ?_
        show f_Ma_standsFor_L5 x v2 (nI c) (nI i) σ = some (.inr (pkV (s.2.2.2.1 c), σ))
        unfold f_Ma_standsFor_L5
        rw [if_neg i12, if_neg (nI_nle (by omega) (by omega)), gd_t (inb_nI (by omega) (by decide)), nI_cl (by omega), r1, if_pos y, gd_t (inb_nI (by omega) (by decide)), r2]
        rfl
      · rw [if_neg y]
        have := (hs c (by omega) hc).1
        refine lp_step (b := (nI (s.2.2.2.2 c), nI (i + 1), σ)) ?_ (ih (i + 1) _ (by omega) (by omega))
        show f_Ma_standsFor_L5 x v2 (nI c) (nI i) σ = _
        unfold f_Ma_standsFor_L5
        rw [if_neg i12, if_neg (nI_nle (by omega) (by omega)), gd_t (inb_nI (by omega) (by decide)), nI_cl (by omega), r1, if_neg y, gd_t (inb_nI (by omega) (by decide)), r3, lt_q, lt_q, nI_1]
theorem s_bindC {σ : Mem} {s : Sr} (hB : s.2.1 < 133) (hR : RepC σ s) (x : Int32) (v : Vl) (o : Nat) : ∃ σ', f_Ma_bind x (pkV v) (nI o) σ = some (nI (s.2.1 + 1), σ') ∧ RepC σ' (bnd s x v o) ∧ frR σ σ' := by
  obtain ⟨h1, h2, h3⟩ := hR
  obtain ⟨σ1, e1⟩ : ∃ y, y = sI σ 11 3 (nI (s.2.1 + 1)) := ⟨_, rfl⟩
  obtain ⟨σ2, e2⟩ : ∃ y, y = sI σ1 12 (s.2.1 + 1) x := ⟨_, rfl⟩
  obtain ⟨σ3, e3⟩ : ∃ y, y = sL σ2 13 (s.2.1 + 1) (pkV v) := ⟨_, rfl⟩
  obtain ⟨σ4, e4⟩ : ∃ y, y = sI σ3 14 (s.2.1 + 1) (nI o) := ⟨_, rfl⟩
  have c1 : σ1.1 11 = upd (σ.1 11) 3 (nI (s.2.1 + 1)) := by rw [e1, rI_at]
  have c2 : σ2.1 11 = σ1.1 11 := by rw [e2, rI_ne (by decide)]
  have c3 : σ3.1 11 = σ1.1 11 := by rw [e3]; exact c2
  have c4 : σ4.1 11 = σ1.1 11 := by rw [e4, rI_ne (by decide), c3]
  have b1 : σ1.1 11 3 = nI (s.2.1 + 1) := by rw [c1, pk_us]
  have d12 : σ4.1 12 = upd (σ.1 12) (s.2.1 + 1) x := by rw [e4, rI_ne (by decide), e3]; show σ2.1 12 = _; rw [e2, rI_at, e1, rI_ne (by decide)]
  have d13 : σ4.2 13 = vp_updL (σ.2 13) (s.2.1 + 1) (pkV v) := by rw [e4]; show σ3.2 13 = _; rw [e3, rL_at, e2]; show vp_updL (σ1.2 13) _ _ = _; rw [e1]; rfl
  have d14 : σ4.1 14 = upd (σ.1 14) (s.2.1 + 1) (nI o) := by rw [e4, rI_at, e3]; show upd (σ2.1 14) _ _ = _; rw [e2, rI_ne (by decide), e1, rI_ne (by decide)]
  refine ⟨σ4, ?_, ⟨by rw [c4, b1]; rfl, by rw [c4, c1, pk_un (by decide)]; exact h2, fun j j1 j2 => ?_⟩, ⟨?_, by rw [c4, c1, pk_un (by decide)]⟩⟩
  · unfold f_Ma_bind
    rw [h1, if_pos (show nI s.2.1 < 133 from (nIlt (b := 133) (by omega) (by decide)).mpr hB), nI_1, ← e1, lt_q, b1, gd_t (inb_nI (by omega) (by decide)), nI_cl (by omega), ← e2, lt_q, c2, b1, gd_t (inb_nI (by omega) (by decide)), nI_cl (by omega), ← e3, lt_q, c3, b1, gd_t (inb_nI (by omega) (by decide)), nI_cl (by omega), ← e4, lt_q, c4, b1]
  · show σ4.1 12 j = upd s.2.2.1 (s.2.1 + 1) x j ∧ σ4.2 13 j = pkV (if j = s.2.1 + 1 then v else s.2.2.2.1 j) ∧ σ4.1 14 j = nI (if j = s.2.1 + 1 then o else s.2.2.2.2 j)
    rw [d12, d13, d14]
    have j2' : j ≤ s.2.1 + 1 := j2
    by_cases z : j = s.2.1 + 1
    · rw [z, pk_us, pk_us, vL_us, pk_us, if_pos rfl, if_pos rfl]; exact ⟨rfl, rfl, rfl⟩
    · rw [pk_un z, pk_un z, vL_un z, pk_un z, if_neg z, if_neg z]
      exact h3 j j1 (by omega)
  · rw [e4, e3, e2, e1]
    exact fr_tr (fr_tr (fr_tr (fr_rI _ _ (by unfold cRn; omega)) (fr_rI _ _ (by unfold cRn; omega))) (fr_rL _ _ (by unfold cRn; omega))) (fr_rI _ _ (by unfold cRn; omega))
theorem srt {s : Sr} {R : Vl × Sr} (h : eO n K s R) : R.1.1 < 4 := by
  rcases h.2.2 with q | ⟨_, _, q, _⟩
  · omega
  · rcases q with q | q | q <;> omega
theorem nI_3 {x : Nat} (h : x < 4) : nI x = 3 ↔ x = 3 := nI_eq (b := 3) (by omega) (by decide)
theorem nI_zr {x : Nat} (h : x < 4) : nI x = 0 ↔ x = 0 := nI_eq (b := 0) (by omega) (by decide)
theorem nI_one {x : Nat} (h : x < 4) : nI x = 1 ↔ x = 1 := nI_eq (b := 1) (by omega) (by decide)
theorem C_run (hn : n ≤ 40) (hwf : wf K n) (hk : okK n K F T) : ∀ (g a c d : Nat) (s : Sr) (σ : Mem), eI n K a c s → g + d = 60 → CRm p n K F T M σ → RepC σ s → ∃ σ', F_Ma_runTerm (g + 1) p (nI a) (nI c) (nI d) σ = some (pkV (ev K F M g a c s).1, σ') ∧ frR σ σ' ∧ RepC σ' (ev K F M g a c s).2 := by
  intro g
  induction g with
  | zero =>
    intro a c d s σ hI hd hC hR
    refine ⟨σ, ?_, frR_rf σ, hR⟩
    show f_Ma_runTerm _ p (nI a) (nI c) (nI d) σ = some (pkV (3, 0, 0), σ)
    unfold f_Ma_runTerm f_Ma_runTerm_J21
    rw [if_neg (nI_pos (by have := hI.1; omega)), pv_spent, bn_q]
    rw [if_neg (show ¬ nI d < 60 from fun z => by have := (nIlt (b := 60) (by omega) (by decide)).mp z; omega)]
    exact ite_self _
  | succ g ih =>
    intro a c d s σ hI hd hC hR
    have ha := hI.1
    have hc := hI.2.1
    have h4 := hI.2.2.2.1
    have hB3 := hI.2.2.2.2.1
    have eE : ev K F M (g + 1) a c s = if s.1 = 400 then ((3, 0, 0), s) else evK K F M (ev K F M g) a c (tick s) := rfl
    show ∃ σ', f_Ma_runTerm (F_Ma_runTerm (g + 1)) p (nI a) (nI c) (nI d) σ = _ ∧ _
    rw [eE]
    by_cases z4 : s.1 = 400
    · rw [if_pos z4]
      refine ⟨σ, ?_, frR_rf σ, hR⟩
      unfold f_Ma_runTerm f_Ma_runTerm_J21
      rw [if_neg (nI_pos (by omega)), hR.2.1, z4, if_pos (by decide), pv_spent, bn_q]
    rw [if_neg z4]
    obtain ⟨ht, h31⟩ := eI_tick hI z4
    obtain ⟨t, et⟩ : ∃ t, t = tick s := ⟨_, rfl⟩
    rw [← et] at ht h31 ⊢
    have tU : t.1 = s.1 + 1 := by rw [et]; rfl
    have t2 : t.2 = s.2 := by rw [et]; rfl
    obtain ⟨σ4, e4⟩ : ∃ y, y = sI σ 11 4 (nI (s.1 + 1)) := ⟨_, rfl⟩
    have f4 : frR σ σ4 := ⟨by rw [e4]; exact fr_rI _ _ (by unfold cRn; omega), by rw [e4, rI_at, pk_un (by decide)]⟩
    have C4 := CRm_R hC f4
    have R4 : RepC σ4 t := by
      unfold RepC
      rw [t2, tU]
      have g : ∀ c, c ≠ 11 → σ4.1 c = σ.1 c := fun c hc => by rw [e4, rI_ne hc]
      have gl : ∀ c, σ4.2 c = σ.2 c := fun c => by rw [e4]; rfl
      rw [g 12 (by decide), g 14 (by decide), gl, e4, rI_at, pk_us, pk_un (by decide)]
      exact ⟨hR.1, rfl, hR.2.2⟩
    have B133 : t.2.1 ≤ 133 := by have := ht.2.2.2.1; omega
    obtain ⟨r1, r2, r3, r4⟩ := C4.1.2 a ha
    have mk := C4.2 a ha
    have gi : inb (nI a) 40 = true := inb_nI (by omega) (by decide)
    have ci : (nI a).toNatClampNeg = a := nI_cl (by omega)
    have p0 : ∀ {b : Nat} {σ : Mem}, b < n → 1 ≤ ar (K b) → CRm p n K F T M σ → f_Pr_part p (nI b) 0 σ = some (nI (b + 1), σ) := fun hb hab hR => by
      rw [s_Pr_part hn hR.1.1 hR.1.2 hwf 0 hb, if_pos ⟨rfl, hab⟩]
    have p1 : ∀ {σ : Mem}, ar (K a) = 2 → CRm p n K F T M σ → f_Pr_part p (nI a) 1 σ = some (nI (eN K (a + 1)), σ) := fun hab hR => by
      rw [s_Pr_part hn hR.1.1 hR.1.2 hwf 1 ha, if_neg (fun z => absurd z.1 (by decide)), if_pos ⟨rfl, hab⟩]
    have dn : nI d + 1 = nI (d + 1) := nI_1 d
    have un : f_Ma_runTerm (F_Ma_runTerm (g + 1)) p (nI a) (nI c) (nI d) σ = (if M a = 0 then (if K a = 1 then some (pkV (0, σ4.1 (cPf p) a, 0), σ4) else if K a = 2 then bn (f_Ma_standsFor (σ4.1 (cPf p) a) (nI c) σ4) fun (r : Int64) (s : Mem) => some (r, s) else if K a = 3 then bn (f_Ma_runSum (F_Ma_runTerm (g + 1)) p (nI a) (nI c) (nI d) σ4) fun (r : Int64) (s : Mem) => some (r, s) else if K a = 4 then bn (f_Ma_runCall (F_Ma_runTerm (g + 1)) p (nI a) (nI c) (nI d) σ4) fun (r : Int64) (s : Mem) => some (r, s) else if K a = 5 then some (pkV (1, nI a, c), σ4) else if K a = 6 then bn (f_Pr_part p (nI a) 0 σ4) fun (r : Int32) (s : Mem) => bn (F_Ma_runTerm (g + 1) p r (nI c) (nI d + 1) s) fun (r : Int64) (s : Mem) => some (r, s) else some (pkV (2, 0, 0), σ4)) else some (pkV (2, 0, 0), σ4)) := by
      unfold f_Ma_runTerm
      rw [if_neg (nI_pos (by omega)), hR.2.1, if_neg (show ¬ (400 : Int32) ≤ nI s.1 from fun z => by have := (nIle (a := 400) (by decide) (by omega)).mp z; omega), if_pos (show nI d < 60 from (nIlt (b := 60) (by omega) (by decide)).mpr (by omega)), nI_1, ← e4, lt_q, gd_t gi, ci, mk, gd_t gi, r1, gd_t gi, gd_t gi, pv_num, bn_q, pv_fun, bn_q, pv_dark, bn_q]
    rw [un]
    unfold evK
    by_cases hm : M a = 0
    · rw [if_pos hm, if_neg (show ¬ ¬ M a = 0 from fun z => z hm)]
      by_cases k1 : K a = 1
      · rw [if_pos k1, if_pos k1]
        exact ⟨σ4, by rw [r3 (Or.inl k1)], f4, R4⟩
      rw [if_neg k1, if_neg k1]
      by_cases k2 : K a = 2
      · rw [if_pos k2, if_pos k2]
        refine ⟨σ4, ?_, f4, R4⟩
        rw [r3 (Or.inr (Or.inl k2))]
        unfold f_Ma_standsFor
        rw [lt_q]
        have := lp_FU (s_stands ht.2.2.2.2.2 B133 R4 (F a) (nI c) 12 0 c rfl ht.2.1) (by decide)
        rw [show (0 : Int32) = nI 0 from rfl, this, bn_q]
      rw [if_neg k2, if_neg k2]
      -- both parts are run
      have two : ar (K a) = 2 → ∃ σ5, F_Ma_runTerm (g + 1) p (nI (a + 1)) (nI c) (nI d + 1) σ4 = some (pkV (ev K F M g (a + 1) c t).1, σ5) ∧ frR σ4 σ5 ∧ RepC σ5 (ev K F M g (a + 1) c t).2 ∧ (ev K F M g (a + 1) c t).1.1 < 4 ∧ (¬ (ev K F M g (a + 1) c t).1.1 = 3 → ∃ σ6, F_Ma_runTerm (g + 1) p (nI (eN K (a + 1))) (nI c) (nI d + 1) σ5 = some (pkV (ev K F M g (eN K (a + 1)) c (ev K F M g (a + 1) c t).2).1, σ6) ∧ frR σ5 σ6 ∧ RepC σ6 (ev K F M g (eN K (a + 1)) c (ev K F M g (a + 1) c t).2).2 ∧ (ev K F M g (eN K (a + 1)) c (ev K F M g (a + 1) c t).2).1.1 < 4 ∧ (¬ (ev K F M g (eN K (a + 1)) c (ev K F M g (a + 1) c t).2).1.1 = 3 → FQ n K t (ev K F M g (a + 1) c t).1 (ev K F M g (eN K (a + 1)) c (ev K F M g (a + 1) c t).2).1 (ev K F M g (eN K (a + 1)) c (ev K F M g (a + 1) c t).2).2)) := fun a2 => by
        obtain ⟨w1, w2, w3, w4, w5⟩ := wf_ar2 hwf ha a2
        have wn := (wf_at hwf ha).2.2
        have hx : eI n K (a + 1) c t := eI_part ht (by omega) (by omega)
        obtain ⟨o1, o2⟩ := ev2_ok (r := ev K F M g) (ev_ok hn hwf g) hx (y := eN K (a + 1)) (by omega) (by omega)
        obtain ⟨σ5, x1, x2, x3⟩ := ih (a + 1) c (d + 1) t σ4 hx (by omega) C4 R4
        refine ⟨σ5, by rw [dn]; exact x1, x2, x3, srt o1, fun q1 => ?_⟩
        obtain ⟨y1, y2, y3, y4⟩ := o2 q1
        obtain ⟨σ6, z1, z2, z3⟩ := ih (eN K (a + 1)) c (d + 1) _ σ5 y1 (by omega) (CRm_R C4 x2) x3
        exact ⟨σ6, by rw [dn]; exact z1, z2, z3, srt y2, y4⟩
      by_cases k3 : K a = 3
      · rw [if_pos k3, if_pos k3]
        have a2 : ar (K a) = 2 := by rw [k3]; rfl
        obtain ⟨σ5, x1, x2, x3, x4, x5⟩ := two a2
        unfold f_Ma_runSum ev2
        rw [p0 ha (by omega) C4, bn_q, x1, bn_q, out_pk x4, bn_q]
        by_cases q1 : (ev K F M g (a + 1) c t).1.1 = 3
        · rw [if_pos q1, if_pos ((nI_3 x4).mpr q1), bn_q]
          exact ⟨σ5, rfl, frR_tr f4 x2, x3⟩
        · rw [if_neg q1, if_neg (fun z => q1 ((nI_3 x4).mp z))]
          obtain ⟨σ6, z1, z2, z3, z4', z5⟩ := x5 q1
          rw [p1 a2 (CRm_R C4 x2), bn_q, z1, bn_q, out_pk z4', bn_q]
          by_cases q2 : (ev K F M g (eN K (a + 1)) c (ev K F M g (a + 1) c t).2).1.1 = 3
          · rw [if_pos q2, if_pos ((nI_3 z4').mpr q2), bn_q]
            exact ⟨σ6, rfl, frR_tr f4 (frR_tr x2 z2), z3⟩
          · rw [if_neg q2, if_neg (fun z => q2 ((nI_3 z4').mp z))]
            refine ⟨σ6, ?_, frR_tr f4 (frR_tr x2 z2), z3⟩
            dsimp only
            unfold f_Ma_runSum_J80 addV
            rw [out_pk x4, bn_q, out_pk z4', bn_q, con_pk x4, bn_q, con_pk z4', bn_q, pv_num, bn_q, pv_dark, bn_q]
            by_cases u1 : (ev K F M g (a + 1) c t).1.1 = 0
            · rw [if_pos ((nI_zr x4).mpr u1)]
              by_cases u2 : (ev K F M g (eN K (a + 1)) c (ev K F M g (a + 1) c t).2).1.1 = 0
              · rw [if_pos ((nI_zr z4').mpr u2), bn_q, if_pos ⟨u1, u2⟩]
                unfold cont
                rw [if_neg (by omega), if_neg (by omega)]
              · rw [if_neg (fun z => u2 ((nI_zr z4').mp z)), bn_q, if_neg (fun z => u2 z.2)]
            · rw [if_neg (fun z => u1 ((nI_zr x4).mp z)), bn_q, if_neg (fun z => u1 z.1)]
      rw [if_neg k3, if_neg k3]
      by_cases k4 : K a = 4
      · rw [if_pos k4, if_pos k4]
        have a2 : ar (K a) = 2 := by rw [k4]; rfl
        obtain ⟨σ5, x1, x2, x3, x4, x5⟩ := two a2
        unfold f_Ma_runCall ev2
        rw [p0 ha (by omega) C4, bn_q, x1, bn_q, out_pk x4, bn_q]
        by_cases q1 : (ev K F M g (a + 1) c t).1.1 = 3
        · rw [if_pos q1, if_pos ((nI_3 x4).mpr q1), bn_q]
          exact ⟨σ5, rfl, frR_tr f4 x2, x3⟩
        · rw [if_neg q1, if_neg (fun z => q1 ((nI_3 x4).mp z))]
          obtain ⟨σ6, z1, z2, z3, z4', z5⟩ := x5 q1
          rw [p1 a2 (CRm_R C4 x2), bn_q, z1, bn_q, out_pk z4', bn_q]
          by_cases q2 : (ev K F M g (eN K (a + 1)) c (ev K F M g (a + 1) c t).2).1.1 = 3
          · rw [if_pos q2, if_pos ((nI_3 z4').mpr q2), bn_q]
            exact ⟨σ6, rfl, frR_tr f4 (frR_tr x2 z2), z3⟩
          · rw [if_neg q2, if_neg (fun z => q2 ((nI_3 z4').mp z))]
            obtain ⟨f1, f2, f3, f4', f5, f6, f7, f8⟩ := z5 q2
            have f46 : frR σ σ6 := frR_tr f4 (frR_tr x2 z2)
            have C6 := CRm_R hC f46
            obtain ⟨v, hv⟩ : ∃ v, v = (ev K F M g (a + 1) c t).1 := ⟨_, rfl⟩
            obtain ⟨w, hw⟩ : ∃ w, w = (ev K F M g (eN K (a + 1)) c (ev K F M g (a + 1) c t).2).1 := ⟨_, rfl⟩
            obtain ⟨u, hu⟩ : ∃ u, u = (ev K F M g (eN K (a + 1)) c (ev K F M g (a + 1) c t).2).2 := ⟨_, rfl⟩
            rw [← hv] at x4 f3 f7 ⊢
            rw [← hw] at z4' f4' f8 ⊢
            rw [← hu] at f1 f2 f3 f4' f5 f6 z3 ⊢
            unfold evC
            rw [out_pk x4, bn_q]
            by_cases v1 : v.1 = 1
            · rw [if_pos v1, if_pos ((nI_one x4).mpr v1), con_pk x4, bn_q, lt_q, con_pk x4, bn_q, lt_q]
              obtain ⟨b1, b2, b3, b4, b5, b6, b7⟩ := bnd_ok (x := F (fnA v)) hn hwf f2 f6 (by have := f1.1; omega) f4' f3 v1
              have uB : u.2.1 ≤ 132 := by have := f1.1; omega
              have ec : cont v = nI (v.2.2 * 40 + fnA v) := by
                unfold cont
                rw [if_pos v1, ← nI_add, b2]
                show nI v.2.2 * nI 40 + _ = _
                rw [pk_mul, ← b2]
              have em : cont v - cont v / 40 * 40 = nI (fnA v) := by
                rw [ec]
                have := pk_rem (a := v.2.2 * 40 + fnA v) (d := 40) (by omega) (by decide) (by decide)
                show nI _ - nI _ / nI 40 * nI 40 = _
                rw [this]
                exact congrArg nI (by omega)
              have ed : cont v / 40 = nI v.2.2 := by
                rw [ec]
                have := pk_div (a := v.2.2 * 40 + fnA v) (d := 40) (by omega) (by decide) (by decide)
                show nI _ / nI 40 = _
                rw [this]
                exact congrArg nI (by omega)
              rw [em, ed, gd_t (inb_nI (by omega) (by decide)), nI_cl (by omega), (C6.1.2 (fnA v) b1).2.2.1 (Or.inr (Or.inr b3))]
              obtain ⟨σ7, g1, g2, g3⟩ := s_bindC (by omega) z3 (F (fnA v)) w v.2.2
              have C7 := CRm_R C6 g3
              obtain ⟨σ8, j1, j2, j3⟩ := ih (fnA v + 1) (u.2.1 + 1) (d + 1) _ σ7 b6 (by omega) C7 g2
              rw [g1, bn_q, p0 b1 (by rw [b3]; decide) C7, bn_q, dn, j1, bn_q, bn_q]
              exact ⟨σ8, rfl, frR_tr f46 (frR_tr g3 j2), j3⟩
            · rw [if_neg v1, if_neg (fun z => v1 ((nI_one x4).mp z)), pv_dark, bn_q, bn_q]
              exact ⟨σ6, rfl, f46, z3⟩
      rw [if_neg k4, if_neg k4]
      by_cases k5 : K a = 5
      · rw [if_pos k5, if_pos k5]
        exact ⟨σ4, rfl, f4, R4⟩
      rw [if_neg k5, if_neg k5]
      by_cases k6 : K a = 6
      · rw [if_pos k6, if_pos k6]
        obtain ⟨w1, w2, w3⟩ := wf_ar1 hwf ha (by rw [k6]; rfl)
        have wn := (wf_at hwf ha).2.2
        obtain ⟨σ5, x1, x2, x3⟩ := ih (a + 1) c (d + 1) t σ4 (eI_part ht (by omega) (by omega)) (by omega) C4 R4
        rw [p0 ha (by rw [k6]; decide) C4, bn_q, dn, x1, bn_q]
        exact ⟨σ5, rfl, frR_tr f4 x2, x3⟩
      · rw [if_neg k6, if_neg k6]
        exact ⟨σ4, rfl, f4, R4⟩
    · rw [if_neg hm, if_pos hm]
      exact ⟨σ4, rfl, f4, R4⟩
end CRUN
