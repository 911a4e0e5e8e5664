section CTYPE2
variable {n p : Nat} {K F : Nat → Int32} {T : Nat → Int64}
theorem LocI_up (hwf : wf K n) (hk : okK n K F T) {i : Nat} {w r : Int64} {σ5 σ7 : Mem} {s : St} (hi : i < n) (hwk : okW w) (h : TBK K F T i w r σ5 σ7) (hs : ∀ j, j ≠ i → sm s (stC σ7) j) (hg : s.1 i = r) (hw : s.2.1 i = w) (hm : s.2.2 i = mF K F T (H_ (stC σ7) i) w r i) : LocI K F T i (eN K i) s := by
  obtain ⟨t1, t2, t3, t4, t5, t6, t7⟩ := h
  have hH : H_ s i = H_ (stC σ7) i := H_sm (hs (i + 1) (by omega))
  have hlt := (wf_at hwf hi).2.1
  have hen := (wf_at hwf hi).2.2
  have L1 : ar (K i) ≠ 0 → LocI K F T (i + 1) (eN K (i + 1)) s := fun z => LocI_sm hwf hk (nx_lt hwf hi z) (t6 z).2 (fun j h1 h2 => hs j (by omega))
  have fst : ar (K i) ≠ 0 → s.2.1 (i + 1) = wE K T s (i + 1) := fun z => by
    rw [(hs (i + 1) (by omega)).2.1, (t6 z).1]
    unfold wE
    rw [(up_first hwf hi z).1]
    show _ = wF K T (H_ s i) (s.2.1 i) i (if i + 1 = i + 1 then 0 else 1)
    rw [if_pos rfl, hH, hw]
  intro j h1 h2
  by_cases q : j = i
  · rw [q]
    refine ⟨?_, ?_, ?_, ?_, fun z => by omega⟩
    · rw [hg, t4]
      refine gF_ok hi hk (fun z => ?_)
      have := (t6 (ar_45 z)).2 (i + 1) (Nat.le_refl _) (wf_at hwf (nx_lt hwf hi (ar_45 z))).2.1
      exact has_ok this.1
    · rw [hw]; exact hwk
    · rw [hg, hH]; exact t4
    · rw [hm, hH, hw, hg]
  · have har := ar_le (K i)
    rcases (by omega : ar (K i) = 0 ∨ ar (K i) = 1 ∨ ar (K i) = 2) with z | z | z
    · have := wf_ar0 hwf hi z; omega
    · obtain ⟨e1, e2, e3⟩ := wf_ar1 hwf hi z
      obtain ⟨a1, a2, a3, a4, a5⟩ := L1 (by omega) j (by omega) (by omega)
      refine ⟨a1, a2, a3, a4, fun _ => ?_⟩
      by_cases y : j = i + 1
      · rw [y]; exact fst (by omega)
      · exact a5 (by omega)
    · obtain ⟨e1, e2, e3, e4, e5⟩ := wf_ar2 hwf hi z
      by_cases y : j < eN K (i + 1)
      · obtain ⟨a1, a2, a3, a4, a5⟩ := L1 (by omega) j (by omega) y
        refine ⟨a1, a2, a3, a4, fun _ => ?_⟩
        by_cases x : j = i + 1
        · rw [x]; exact fst (by omega)
        · exact a5 (by omega)
      · have L2 := LocI_sm hwf hk (i := eN K (i + 1)) (s := stC σ7) (s' := s) (by omega) (by rw [e3]; exact (t7 z).2) (fun j h1 h2 => hs j (by omega))
        obtain ⟨a1, a2, a3, a4, a5⟩ := L2 j (by omega) (by omega)
        refine ⟨a1, a2, a3, a4, fun _ => ?_⟩
        by_cases x : j = eN K (i + 1)
        · rw [x, (hs (eN K (i + 1)) (by omega)).2.1, (t7 z).1]
          unfold wE
          rw [up_second hwf hi z]
          show _ = wF K T (H_ s i) (s.2.1 i) i (if i + 1 = eN K (i + 1) then 0 else 1)
          rw [if_neg (by omega), hH, hw]
        · exact a5 (by omega)
set_option maxHeartbeats 4000000 in
theorem C_type (hn : n ≤ 40) (hwf : wf K n) (hk : okK n K F T) : ∀ (f i : Nat), i < n → tm K f i = some (eN K i) → ∀ (d : Nat), f + d ≤ 12 → ∀ (w : Int64) (σ : Mem), okW w → CR σ p n K F T → ∃ σ', F_Tg_typeTerm (f + 1) p (nI i) w (nI d) σ = some (hasF ((stC σ').2.2 i) ((stC σ').1 i), σ') ∧ POST K F T i w σ σ' := by
  intro f
  induction f with
  | zero => intro i hi h; cases h
  | succ f ih =>
    intro i hi h d hd w σ hwk hC
    have hlt := (wf_at hwf hi).2.1
    have hen := (wf_at hwf hi).2.2
    have hr : ∀ a, i < a → a < eN K i → dp K a = dp K i + 1 → rcOK p n K F T (F_Tg_typeTerm (f + 1)) d a := fun a h1 h2 _ w' σ' hw' hC' => by
      obtain ⟨e', x1, x2, x3⟩ := tm_sub h (j := a) (by omega) h2
      obtain ⟨f', y1, y2⟩ := x3 h1
      obtain rfl : f = f' := by omega
      have ee : eN K a = e' := eN_of (by omega) y2
      rw [← ee] at y2
      exact ih a (by omega) y2 (d + 1) (by omega) w' σ' hw' hC'
    obtain ⟨σ3, e3⟩ : ∃ s, s = sL σ 5 i w := ⟨_, rfl⟩
    obtain ⟨σ5, e5⟩ : ∃ s, s = sI σ3 6 i 0 := ⟨_, rfl⟩
    have f5 : fr cT σ σ5 := by rw [e5, e3]; exact fr_tr (fr_rL _ _ (Or.inr (Or.inl rfl))) (fr_rI _ _ (Or.inr (Or.inr rfl)))
    have st5 : stC σ5 = (σ.2 4, vp_updL (σ.2 5) i w, upd (σ.1 6) i 0) := by
      rw [e5, st_6, e3]
      show ((sL σ 5 i w).2 4, (sL σ 5 i w).2 5, _) = _
      rw [rL_ne (by decide), rL_at]
      rfl
    have w5 : (stC σ5).2.1 i = w := by rw [st5]; exact vL_us
    have m5 : (stC σ5).2.2 i = 0 := by rw [st5]; exact pk_us
    have o5 : ∀ j, j ≠ i → sm (stC σ5) (stC σ) j := fun j hj => by rw [st5]; exact ⟨rfl, vL_un hj, pk_un hj⟩
    have hC5 := CR_fr hC f5
    have eK : σ5.1 (cPk p) i = K i := (hC5.2 i hi).1
    have tbk : ∃ r σ7, f_Tg_typeByKind (F_Tg_typeTerm (f + 1)) p (nI i) w (nI d) σ5 = some (r, σ7) ∧ TBK K F T i w r σ5 σ7 := by
      unfold f_Tg_typeByKind
      rw [gd_t (inb_nI (by omega) (by decide)), nI_cl (by omega), eK]
      rcases (hk i hi).1 with z | z | z | z | z | z | z
      · refine ⟨1, σ5, ?_, tb_0 z w5 m5⟩
        rw [z]; rfl
      · refine ⟨2, σ5, ?_, tb_1 z w5 m5⟩
        rw [z]; rfl
      · obtain ⟨r, σ7, a, b⟩ := tb_2 hn hC5 hwf hi z w5 m5
        refine ⟨r, σ7, ?_, b⟩
        rw [z, if_neg (by decide), if_pos rfl, a, bn_q]
      · obtain ⟨σ7, a, b⟩ := tb_3 hn hC5 hwf hk hi z w5 m5 hr
        refine ⟨2, σ7, ?_, b⟩
        rw [z, if_neg (by decide), if_neg (by decide), if_pos rfl]
        exact a
      · obtain ⟨r, σ7, a, b⟩ := tb_4 hn hC5 hwf hk hi z w5 m5 hr
        refine ⟨r, σ7, ?_, b⟩
        rw [z, if_neg (by decide), if_neg (by decide), if_neg (by decide), if_pos rfl, a, bn_q]
      · obtain ⟨r, σ7, a, b⟩ := tb_5 hn hC5 hwf hk hi z hwk w5 m5 hr
        refine ⟨r, σ7, ?_, b⟩
        rw [z, if_neg (by decide), if_neg (by decide), if_neg (by decide), if_neg (by decide), if_pos rfl, a, bn_q]
      · obtain ⟨r, σ7, a, b⟩ := tb_6 hn hC5 hwf hk hi z w5 m5 hr
        refine ⟨r, σ7, ?_, b⟩
        rw [z, if_neg (by decide), if_neg (by decide), if_neg (by decide), if_neg (by decide), if_neg (by decide), if_pos rfl]
        rw [nI_cl (by omega)] at a
        exact a
    obtain ⟨r, σ7, a7, b7⟩ := tbk
    obtain ⟨σ10, e10⟩ : ∃ s, s = sL σ7 4 i r := ⟨_, rfl⟩
    have f10 : fr cT σ7 σ10 := by rw [e10]; exact fr_rL _ _ (Or.inl rfl)
    have st10 : stC σ10 = (vp_updL (σ7.2 4) i r, σ7.2 5, σ7.1 6) := by
      rw [e10]
      unfold stC
      rw [rL_at, rL_ne (by decide)]
      rfl
    have m10 : σ10.1 6 i = pm K F T (H_ (stC σ7) i) w i := by rw [e10]; exact b7.2.2.2.2.1
    have o10 : ∀ j, j ≠ i → sm (stC σ10) (stC σ7) j := fun j hj => by rw [st10]; exact ⟨vL_un hj, rfl, rfl⟩
    have hrk : okT r := by
      rw [b7.2.2.2.1]
      refine gF_ok hi hk (fun z => ?_)
      exact has_ok ((b7.2.2.2.2.2.1 (ar_45 z)).2 (i + 1) (Nat.le_refl _) (wf_at hwf (nx_lt hwf hi (ar_45 z))).2.1).1
    -- the end, with or without a mark for the misfit
    obtain ⟨pmv, hpm⟩ : ∃ v, v = pm K F T (H_ (stC σ7) i) w i := ⟨_, rfl⟩
    rw [← hpm] at m10
    obtain ⟨σf, ef⟩ : ∃ s, s = if pmv = 0 ∧ ¬ w = 0 ∧ cnF r w = 0 then sI σ10 6 i 4 else σ10 := ⟨_, rfl⟩
    have ff : fr cT σ10 σf := by
      rw [ef]
      by_cases z : pmv = 0 ∧ ¬ w = 0 ∧ cnF r w = 0
      · rw [if_pos z]; exact fr_6 _ _ _
      · rw [if_neg z]; exact fr_rf _ _
    have of : ∀ j, j ≠ i → sm (stC σf) (stC σ7) j := fun j hj => by
      rw [ef]
      by_cases z : pmv = 0 ∧ ¬ w = 0 ∧ cnF r w = 0
      · rw [if_pos z]; exact sm_tr (sm_6 hj) (o10 j hj)
      · rw [if_neg z]; exact o10 j hj
    have gf : (stC σf).1 i = r := by
      rw [ef]
      by_cases z : pmv = 0 ∧ ¬ w = 0 ∧ cnF r w = 0
      · rw [if_pos z, st_6]
        show (stC σ10).1 i = r
        rw [st10]; exact vL_us
      · rw [if_neg z, st10]; exact vL_us
    have wf_ : (stC σf).2.1 i = w := by
      have : (stC σ10).2.1 i = w := by rw [st10]; exact b7.2.2.1
      rw [ef]
      by_cases z : pmv = 0 ∧ ¬ w = 0 ∧ cnF r w = 0
      · rw [if_pos z, st_6]; exact this
      · rw [if_neg z]; exact this
    have mf : (stC σf).2.2 i = mF K F T (H_ (stC σ7) i) w r i := by
      rw [mF_pm, ← hpm, ef]
      by_cases z : pmv = 0 ∧ ¬ w = 0 ∧ cnF r w = 0
      · rw [if_pos z, if_pos z, st_6]; exact pk_us
      · rw [if_neg z, if_neg z]; exact m10
    refine ⟨σf, ?_, fr_tr (fr_tr f5 b7.1) (fr_tr f10 ff), fun j hj => ?_, wf_, LocI_up hwf hk hi hwk b7 of gf wf_ mf⟩
    · have J78 : f_Tg_typeTerm_J78 (F_Tg_typeTerm (f + 1)) p (nI i) w (nI d) r σf = some (hasF ((stC σf).2.2 i) ((stC σf).1 i), σf) := by
        unfold f_Tg_typeTerm_J78 f_Tg_typeTerm_J93 hasF
        rw [gd_t (inb_nI (by omega) (by decide)), nI_cl (by omega), gf]
        show (if (stC σf).2.2 i = 0 then _ else _) = _
        by_cases z : (stC σf).2.2 i = 0
        · rw [if_pos z, if_pos z]
        · rw [if_neg z, if_neg z]
      show f_Tg_typeTerm (F_Tg_typeTerm (f + 1)) p (nI i) w (nI d) σ = _
      unfold f_Tg_typeTerm
      simp only [lt_]
      rw [if_neg (nI_pos (by omega)), if_pos (show nI d < 12 from (nIlt (b := 12) (by omega) (by decide)).mpr (by omega)), gd_t (inb_nI (by omega) (by decide)), gd_t (inb_nI (by omega) (by decide)), nI_cl (by omega), ← e3, ← e5, a7, bn_q, gd_t (inb_nI (by omega) (by decide)), gd_t (inb_nI (by omega) (by decide)), ← e10, m10]
      by_cases z1 : pmv = 0
      · rw [if_pos z1]
        by_cases z2 : w = 0
        · rw [if_neg (show ¬ (pmv = 0 ∧ ¬ w = 0 ∧ cnF r w = 0) from fun q => q.2.1 z2)] at ef
          rw [if_pos (cmp0.mpr z2), ← ef, J78]
        · rw [if_neg (fun q => z2 (cmp0.mp q)), (s_cons hrk (hwk.resolve_left z2) σ10).1, bn_q]
          by_cases z3 : cnF r w = 0
          · rw [if_pos ⟨z1, z2, z3⟩] at ef
            rw [if_pos z3, gd_t (inb_nI (by omega) (by decide)), ← ef, J78]
          · rw [if_neg (show ¬ (pmv = 0 ∧ ¬ w = 0 ∧ cnF r w = 0) from fun q => z3 q.2.2)] at ef
            rw [if_neg z3, ← ef, J78]
      · rw [if_neg (show ¬ (pmv = 0 ∧ ¬ w = 0 ∧ cnF r w = 0) from fun q => z1 q.1)] at ef
        rw [if_neg z1, ← ef, J78]
    · exact sm_tr (of j (by omega)) (sm_tr (b7.2.1 j hj) (o5 j (by omega)))
end CTYPE2
