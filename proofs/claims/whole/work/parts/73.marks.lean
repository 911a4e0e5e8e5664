/-! mark, got, expected, marks -/
def TYp : TYt := fun n K F T g w m => rEs n K F T (g, w, m) (g, w, m) ∧ vE n (g, w, m)
section MARKS
variable {PC : PCt} {PM : PMt} {σ : Mem} {n c p kp pb ch : Nat} {K F : Nat → Int32} {T : Nat → Int64} {Hs Ps : Nat → Pg}
theorem IV_typed (h : IV TYp PC PM σ (n, c, K, F, T) p kp pb ch Hs Ps) (hch : ch ≤ 1000) : ∃ σ1, f_Be_typed σ = some (3, σ1) ∧ IV TYp PC PM σ1 (n, c, K, F, T) p kp pb ch Hs Ps ∧ σ1.1 3 3 = nI ch ∧ TYp n K F T (σ1.2 4) (σ1.2 5) (σ1.1 6) ∧ fr (fun c => c = 3 ∨ cT c) σ σ1 := by
  obtain ⟨h1, h2, h3, h4, h5, h6⟩ := id h
  have hn : n ≤ 40 := h1.1.2.1
  have hc : c < n := h1.1.2.2.1
  have hwf : wf K n := okP_wf h1.1
  have e14 : σ.1 1 4 = nI ch := h2.2.2.1.2.2.2
  rcases h4 with ⟨q1, q2⟩ | ⟨q1, q2, q3⟩
  · obtain ⟨σ1, e1⟩ : ∃ s, s = sI σ 3 3 (nI ch) := ⟨_, rfl⟩
    have f1 : fr (fun c => c = 3) σ σ1 := by rw [e1]; exact fr_rI _ _ rfl
    have h2' : CV σ1 (n, c, K, F, T) p kp pb ch Hs Ps := CV_fr h2 f1 (fun c hc => by unfold cE at hc; omega)
    obtain ⟨σ2, a1, a2, a3, a4, a5⟩ := C_type (p := p) hn hwf h1.1.2.2.2 12 0 (by omega) (by rw [wf_root hwf]; exact h1.1.1) 0 (by omega) 0 σ1 (Or.inl rfl) ⟨h2'.2.2.2.1.1, h2'.2.2.2.1.2.2⟩
    rw [wf_root hwf] at a5
    have fA : fr (fun c => c = 3 ∨ cT c) σ σ2 := fr_tr (fr_mono f1 (fun c q => Or.inl q)) (fr_mono a2 (fun c q => Or.inr q))
    have c3 : σ2.1 3 3 = nI ch := by rw [(a2 3 (by unfold cT; omega)).1, e1, rI_at, pk_us]
    have hT : TYp n K F T (σ2.2 4) (σ2.2 5) (σ2.1 6) := by
      refine ⟨fun j hj => ?_, fun j hj => ?_⟩
      · obtain ⟨b1, b2, b3, b4, b5⟩ := a5 j (Nat.zero_le _) hj
        refine ⟨?_, b3, b4⟩
        by_cases z : j = 0
        · rw [z]; exact a4
        · exact b5 (by omega)
      · obtain ⟨b1, b2, _⟩ := a5 j (Nat.zero_le _) hj
        exact ⟨b1, b2⟩
    have g : ∀ c, 7 ≤ c → σ2.1 c = σ.1 c ∧ σ2.2 c = σ.2 c := fun c hc => fA c (by unfold cT; omega)
    refine ⟨σ2, ?_, ⟨h1, CV_fr h2 fA (fun c hc => by unfold cE at hc; unfold cT; omega), MV_fr h3 fA (fun c hc => by unfold mE at hc; unfold cT; omega), Or.inr ⟨c3, hT, Or.inl ?_⟩, ?_, ?_⟩, c3, hT, fA⟩
    · unfold f_Be_typed f_Be_typed_J49
      simp only [lt_]
      rw [e14, if_neg (q1 ch (Nat.le_refl _) hch), ← e1, s_Hi_present h2'.2.2.1 h2'.1, bn_q, gd_t (decide_eq_true h2'.1)]
      have : F_Tg_typeTerm 13 p 0 0 0 σ1 = _ := a1
      rw [this, bn_q]
    · rw [(g 15 (by decide)).1]; exact q2
    · exact PgI_fr h5 c (by rw [(g 7 (by decide)).1]) (g 8 (by decide)).2 (g 9 (by decide)).1 (g 10 (by decide)).1 (g 27 (by decide)).1 (g 28 (by decide)).1 (g 29 (by decide)).1 (by rw [(g 15 (by decide)).1]) (by rw [(g 15 (by decide)).1])
    · unfold NuI
      rw [(g 11 (by decide)).1, (g 15 (by decide)).1]; exact h6
  · refine ⟨σ, ?_, h, q1, q2, fr_rf _ _⟩
    unfold f_Be_typed f_Be_typed_J49
    rw [e14, if_pos q1]
theorem MV_15 {A : Pg} {σ σ' : Mem} (h : MV σ A kp pb Hs Ps) {S : Nat → Prop} (hf : fr S σ σ') (hS : ∀ c, 16 ≤ c → c ≤ 23 → ¬ S c) (h15 : ∀ q, q = 0 ∨ q = 1 ∨ q = 5 ∨ q = 6 → σ'.1 15 q = σ.1 15 q) : MV σ' A kp pb Hs Ps := by
  obtain ⟨⟨a1, a2, a3⟩, h2, h3, h4, h5⟩ := h
  have q : ∀ c, 16 ≤ c → c ≤ 23 → σ'.1 c = σ.1 c ∧ σ'.2 c = σ.2 c := fun c a b => hf c (hS c a b)
  have sl : ∀ {s : Nat} {B : Pg}, atS σ s B → atS σ' s B := fun hB => by
    unfold atS
    rw [(q 19 (by decide) (by decide)).1, (q 20 (by decide) (by decide)).1, (q 21 (by decide) (by decide)).1, (q 22 (by decide) (by decide)).1, (q 23 (by decide) (by decide)).2]
    exact hB
  refine ⟨⟨by rw [h15 0 (by decide)]; exact a1, by rw [h15 1 (by decide)]; exact a2, ?_⟩, by rw [h15 5 (by decide)]; exact h2, by rw [h15 6 (by decide)]; exact h3, fun j hj => sl (h4 j hj), fun j hj => sl (h5 j hj)⟩
  unfold rowM
  rw [(q 16 (by decide) (by decide)).1, (q 17 (by decide) (by decide)).1, (q 18 (by decide) (by decide)).2]
  exact a3
theorem IV_mtype (h : IV TYp PC PM σ (n, c, K, F, T) p kp pb ch Hs Ps) (hch : ch ≤ 1000) (hv : σ.1 3 3 = nI ch) : ∃ σ2, f_Mo_type σ = some ((), σ2) ∧ IV TYp PC PM σ2 (n, c, K, F, T) p kp pb ch Hs Ps ∧ (∀ j, j < n → sm (st σ2) (stC σ) j) ∧ fr mTo σ σ2 ∧ σ2.1 3 3 = nI ch ∧ σ2.1 15 12 = 1 := by
  obtain ⟨h1, h2, h3, h4, h5, h6⟩ := id h
  rcases h4 with ⟨q1, q2⟩ | ⟨q1, q2, q3⟩
  · exact absurd hv (q1 ch (Nat.le_refl _) hch)
  rcases q3 with q3 | ⟨q3, q4⟩
  · obtain ⟨σ2, a1, a2, a3, a4⟩ := s_Mo_type (R := stC σ) h3.1 h1.1 q3 q2.1
    have g : ∀ c, ¬ mTo c → σ2.1 c = σ.1 c ∧ σ2.2 c = σ.2 c := fun c hc => a2 c hc
    have g15 : ∀ q, q ≠ 12 → σ2.1 15 q = σ.1 15 q := fun q hq => by rw [a3, pk_un hq]
    have nm : ∀ c, c < 15 ∨ 27 ≤ c → ¬ mTo c := fun c hc => by unfold mTo mT; omega
    have e3 : σ2.1 3 3 = nI ch := by rw [(g 3 (nm 3 (by omega))).1]; exact q1
    refine ⟨σ2, a1, ⟨h1, CV_fr h2 a2 (fun c hc => nm c (by unfold cE at hc; omega)), MV_15 h3 a2 (fun c x y => by unfold mTo mT; omega) (fun q hq => g15 q (by omega)), Or.inr ⟨e3, ?_, Or.inr ⟨by rw [a3, pk_us], fun j hj => ?_⟩⟩, ?_, ?_⟩, a4, a2, e3, by rw [a3, pk_us]⟩
    · rw [(g 4 (nm 4 (by omega))).2, (g 5 (nm 5 (by omega))).2, (g 6 (nm 6 (by omega))).1]; exact q2
    · rw [(g 4 (nm 4 (by omega))).2, (g 5 (nm 5 (by omega))).2, (g 6 (nm 6 (by omega))).1]; exact a4 j hj
    · exact PgI_fr h5 c (by rw [(g 7 (nm 7 (by omega))).1]) (g 8 (nm 8 (by omega))).2 (g 9 (nm 9 (by omega))).1 (g 10 (nm 10 (by omega))).1 (g 27 (nm 27 (by omega))).1 (g 28 (nm 28 (by omega))).1 (g 29 (nm 29 (by omega))).1 (g15 16 (by decide)) (g15 17 (by decide))
    · exact ⟨by rw [(g 11 (nm 11 (by omega))).1, g15 25 (by decide)]; exact h6.1, by rw [(g 11 (nm 11 (by omega))).1, g15 24 (by decide)]; exact h6.2⟩
  · refine ⟨σ, ?_, h, fun j hj => q4 j hj, fr_rf _ _, q1, q3⟩
    unfold f_Mo_type
    rw [q3, if_neg (by decide)]
theorem ok_mark {k : Nat} (hk : k < 900) (hI : Inv TYp PC PM k σ) : Ok TYp PC PM (k + 1) σ f_Be_mark f_Mo_mark := by
  obtain ⟨⟨n, c, K, F, T⟩, p, kp, pb, ch, Hs, Ps, hk2, h⟩ := id hI
  obtain ⟨σ1, a1, a2, a3, a4, a5⟩ := IV_typed h (by omega)
  obtain ⟨σ2, b1, b2, b3, b4, b5, b6⟩ := IV_mtype a2 (by omega) a3
  have hn : n ≤ 40 := h.1.1.2.1
  have hc : c < n := h.1.1.2.2.1
  have ec : σ1.1 (cP p) 5 = nI c := a2.2.1.2.2.2.1.2.1
  have em : σ2.1 15 1 = nI c := b2.2.2.1.1.2.1
  refine ⟨σ1.1 6 c, σ1, σ2, ?_, ?_, _, _, _, _, _, _, _, (by omega : ch ≤ k + 1), b2⟩
  · unfold f_Be_mark
    rw [a1, bn_q, IV_present a2, bn_q, gd_t (IV_p a2), ec, gd_t (inb_nI (by omega) (by decide)), nI_cl (by omega)]
  · unfold f_Mo_mark
    rw [b1, bn_q, em, gd_t (inb_nI (by omega) (by decide)), nI_cl (by omega)]
    congr 2
    exact (b3 c hc).2.2
theorem ok_got {k : Nat} (hk : k < 900) (hI : Inv TYp PC PM k σ) : Ok TYp PC PM (k + 1) σ f_Be_got f_Mo_got := by
  obtain ⟨⟨n, c, K, F, T⟩, p, kp, pb, ch, Hs, Ps, hk2, h⟩ := id hI
  obtain ⟨σ1, a1, a2, a3, a4, a5⟩ := IV_typed h (by omega)
  obtain ⟨σ2, b1, b2, b3, b4, b5, b6⟩ := IV_mtype a2 (by omega) a3
  have hn : n ≤ 40 := h.1.1.2.1
  have hc : c < n := h.1.1.2.2.1
  have ec : σ1.1 (cP p) 5 = nI c := a2.2.1.2.2.2.1.2.1
  have em : σ2.1 15 1 = nI c := b2.2.2.1.1.2.1
  refine ⟨σ1.2 4 c, σ1, σ2, ?_, ?_, _, _, _, _, _, _, _, (by omega : ch ≤ k + 1), b2⟩
  · unfold f_Be_got
    rw [a1, bn_q, IV_present a2, bn_q, gd_t (IV_p a2), ec, gd_t (inb_nI (by omega) (by decide)), nI_cl (by omega)]
  · unfold f_Mo_got
    rw [b1, bn_q, em, gd_t (inb_nI (by omega) (by decide)), nI_cl (by omega)]
    congr 2
    exact (b3 c hc).1
theorem ok_expected {k : Nat} (hk : k < 900) (hI : Inv TYp PC PM k σ) : Ok TYp PC PM (k + 1) σ f_Be_expected f_Mo_expected := by
  obtain ⟨⟨n, c, K, F, T⟩, p, kp, pb, ch, Hs, Ps, hk2, h⟩ := id hI
  obtain ⟨σ1, a1, a2, a3, a4, a5⟩ := IV_typed h (by omega)
  obtain ⟨σ2, b1, b2, b3, b4, b5, b6⟩ := IV_mtype a2 (by omega) a3
  have hn : n ≤ 40 := h.1.1.2.1
  have hc : c < n := h.1.1.2.2.1
  have ec : σ1.1 (cP p) 5 = nI c := a2.2.1.2.2.2.1.2.1
  have em : σ2.1 15 1 = nI c := b2.2.2.1.1.2.1
  refine ⟨σ1.2 5 c, σ1, σ2, ?_, ?_, _, _, _, _, _, _, _, (by omega : ch ≤ k + 1), b2⟩
  · unfold f_Be_expected
    rw [a1, bn_q, IV_present a2, bn_q, gd_t (IV_p a2), ec, gd_t (inb_nI (by omega) (by decide)), nI_cl (by omega)]
  · unfold f_Mo_expected
    rw [b1, bn_q, em, gd_t (inb_nI (by omega) (by decide)), nI_cl (by omega)]
    congr 2
    exact (b3 c hc).2.1
/-- marks counted, from the first place on -/
def cnt (m : Nat → Int32) : Nat → Nat
  | 0 => 0
  | k + 1 => if m k = 0 then cnt m k else cnt m k + 1
theorem cnt_eq {m m' : Nat → Int32} : ∀ k, (∀ j, j < k → m j = m' j) → cnt m k = cnt m' k
  | 0, _ => rfl
  | k + 1, h => by
    show (if m k = 0 then cnt m k else cnt m k + 1) = (if m' k = 0 then cnt m' k else cnt m' k + 1)
    rw [h k (by omega), cnt_eq k (fun j hj => h j (by omega))]
theorem s_count (hn : n ≤ 40) : f_Tg_countMarks (nI n) σ = some (nI (cnt (σ.1 6) n), σ) := by
  have key : ∀ (d k : Nat), k + d = n → loopF (fun (q : (Int32 × Int32 × Mem)) => f_Tg_countMarks_L4 (nI n) q.1 q.2.1 q.2.2) (d + 1) (nI (cnt (σ.1 6) k), nI k, σ) = some (nI (cnt (σ.1 6) n), σ) := by
    intro d
    induction d with
    | zero =>
      intro k hk
      obtain rfl : k = n := by omega
      refine lp_exit ?_
      show f_Tg_countMarks_L4 (nI k) (nI (cnt (σ.1 6) k)) (nI k) σ = _
      unfold f_Tg_countMarks_L4
      rw [if_pos ((nIle (by omega) (by omega)).mpr (Nat.le_refl _))]
      rfl
    | succ d ih =>
      intro k hk
      refine lp_step (b := (nI (cnt (σ.1 6) (k + 1)), nI (k + 1), σ)) ?_ (ih (k + 1) (by omega))
      show f_Tg_countMarks_L4 (nI n) (nI (cnt (σ.1 6) k)) (nI k) σ = some (.inl (nI (if σ.1 6 k = 0 then cnt (σ.1 6) k else cnt (σ.1 6) k + 1), nI (k + 1), σ))
      unfold f_Tg_countMarks_L4 f_Tg_countMarks_J21
      rw [if_neg (fun z => by have := (nIle (by omega) (by omega)).mp z; omega), gd_t (inb_nI (by omega) (by decide)), nI_cl (by omega)]
      simp only [lt_]
      rw [nI_1, nI_1]
      by_cases z : σ.1 6 k = 0
      · rw [if_pos z, if_pos z]
      · rw [if_neg z, if_neg z]
  exact lp_FU (key n 0 (by omega)) (by omega)
theorem s_countM (hn : n ≤ 40) (h0 : σ.1 15 0 = nI n) : loopF (fun (q : (Int32 × Int32 × Mem)) => f_Mo_marks_L8 q.1 q.2.1 q.2.2) FU (0, 0, σ) = some (nI (cnt (σ.1 26) n), σ) := by
  have key : ∀ (d k : Nat), k + d = n → loopF (fun (q : (Int32 × Int32 × Mem)) => f_Mo_marks_L8 q.1 q.2.1 q.2.2) (d + 1) (nI (cnt (σ.1 26) k), nI k, σ) = some (nI (cnt (σ.1 26) n), σ) := by
    intro d
    induction d with
    | zero =>
      intro k hk
      obtain rfl : k = n := by omega
      refine lp_exit ?_
      show f_Mo_marks_L8 (nI (cnt (σ.1 26) k)) (nI k) σ = _
      unfold f_Mo_marks_L8
      rw [h0, if_pos ((nIle (by omega) (by omega)).mpr (Nat.le_refl _))]
      rfl
    | succ d ih =>
      intro k hk
      refine lp_step (b := (nI (cnt (σ.1 26) (k + 1)), nI (k + 1), σ)) ?_ (ih (k + 1) (by omega))
      show f_Mo_marks_L8 (nI (cnt (σ.1 26) k)) (nI k) σ = some (.inl (nI (if σ.1 26 k = 0 then cnt (σ.1 26) k else cnt (σ.1 26) k + 1), nI (k + 1), σ))
      unfold f_Mo_marks_L8 f_Mo_marks_J31
      rw [h0, if_neg (fun z => by have := (nIle (by omega) (by omega)).mp z; omega), gd_t (inb_nI (by omega) (by decide)), nI_cl (by omega)]
      simp only [lt_]
      rw [nI_1, nI_1]
      by_cases z : σ.1 26 k = 0
      · rw [if_pos z, if_pos z]
        congr 3
        exact nI_add _ 0
      · rw [if_neg z, if_neg z]
  exact lp_FU (key n 0 (by omega)) (by omega)
theorem ok_marks {k : Nat} (hk : k < 900) (hI : Inv TYp PC PM k σ) : Ok TYp PC PM (k + 1) σ f_Be_marks f_Mo_marks := by
  obtain ⟨⟨n, c, K, F, T⟩, p, kp, pb, ch, Hs, Ps, hk2, h⟩ := id hI
  obtain ⟨σ1, a1, a2, a3, a4, a5⟩ := IV_typed h (by omega)
  obtain ⟨σ2, b1, b2, b3, b4, b5, b6⟩ := IV_mtype a2 (by omega) a3
  have hn : n ≤ 40 := h.1.1.2.1
  have ec : σ1.1 (cP p) 4 = nI n := a2.2.1.2.2.2.1.1
  have em : σ2.1 15 0 = nI n := b2.2.2.1.1.1
  refine ⟨nI (cnt (σ1.1 6) n), σ1, σ2, ?_, ?_, _, _, _, _, _, _, _, (by omega : ch ≤ k + 1), b2⟩
  · unfold f_Be_marks
    rw [a1, bn_q, IV_present a2, bn_q, gd_t (IV_p a2), ec, s_count hn, bn_q]
  · unfold f_Mo_marks
    simp only [lt_]
    have ce : cnt (σ2.1 26) n = cnt (σ1.1 6) n := cnt_eq n (fun j hj => (b3 j hj).2.2)
    rw [b1, bn_q, s_countM hn em, ce]
end MARKS
