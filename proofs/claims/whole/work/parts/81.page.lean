/-! the page: what class and reference keep of the text -/
section PAGE
variable {p n : Nat} {K F : Nat → Int32} {T : Nat → Int64}
theorem W_term (hn : n ≤ 40) (hwf : wf K n) (hk : okK n K F T) : ∀ (f i : Nat), i < n → tm K f i = some (eN K i) → ∀ (d : Nat), f + d ≤ 12 → WX p n K F T (F_Pa_writeTerm (f + 1) p (nI i) (nI d)) (tx K F T f i) i (eN K i) (bgn K F T f i) (enn K F T f i) := by
  intro f
  induction f with
  | zero => intro i _ h; cases h
  | succ f ih =>
    intro i hi h d hd σ L hR hT hl
    have hlt := tm_lt h
    have hen := (wf_at hwf hi).2.2
    obtain ⟨f', ef, hc⟩ := tm_cases h
    obtain rfl : f = f' := by omega
    have gi : inb (nI i) 40 = true := inb_nI (by omega) (by decide)
    have ci : (nI i).toNatClampNeg = i := nI_cl (by omega)
    obtain ⟨σ4, e4⟩ : ∃ x, x = sI σ 9 i (nI L.length) := ⟨_, rfl⟩
    have f4 : frT σ σ4 := by rw [e4]; exact frT_rI σ _ (by omega)
    have R4 := RC_T hR f4
    have T4 : TC σ4 L := by rw [e4]; exact TC_rI hT _ (by decide)
    have c9 : σ4.1 9 = upd (σ.1 9) i (nI L.length) := by rw [e4, rI_at]
    have c10 : σ4.1 10 = σ.1 10 := by rw [e4, rI_ne (by decide)]
    obtain ⟨r1, r2, r3, r4⟩ := R4.2 i hi
    obtain ⟨k1, k2, k3, k4⟩ := hk i hi
    have key : ∃ (bf : Mem → Option (Unit × Mem)) , WX p n K F T bf (tx K F T (f + 1) i) (i + 1) (eN K i) (bgn K F T (f + 1) i) (enn K F T (f + 1) i) ∧ f_Pa_writeTerm (F_Pa_writeTerm (f + 1)) p (nI i) (nI d) σ = bn (bf σ4) fun (_ : Unit) (s : Mem) => f_Pa_writeTerm_J92 (F_Pa_writeTerm (f + 1)) p (nI i) (nI d) s := by
      have un : f_Pa_writeTerm (F_Pa_writeTerm (f + 1)) p (nI i) (nI d) σ = (if K i = 1 then bn (f_Pa_writeNumber (σ4.1 (cPf p) i) σ4) fun (_ : Unit) (s : Mem) => f_Pa_writeTerm_J92 (F_Pa_writeTerm (f + 1)) p (nI i) (nI d) s else if K i = 2 then bn (f_Pa_writeName (σ4.1 (cPf p) i) σ4) fun (_ : Unit) (s : Mem) => f_Pa_writeTerm_J92 (F_Pa_writeTerm (f + 1)) p (nI i) (nI d) s else if K i = 0 then bn (f_Pa_writeSign 63 σ4) fun (_ : Unit) (s : Mem) => f_Pa_writeTerm_J92 (F_Pa_writeTerm (f + 1)) p (nI i) (nI d) s else bn (f_Pa_writeWithParts (F_Pa_writeTerm (f + 1)) p (nI i) (nI d) σ4) fun (_ : Unit) (s : Mem) => f_Pa_writeTerm_J92 (F_Pa_writeTerm (f + 1)) p (nI i) (nI d) s) := by
        unfold f_Pa_writeTerm
        rw [if_neg (nI_pos (by omega)), if_pos (show nI d < 12 from (nIlt (b := 12) (by omega) (by decide)).mpr (by omega)), gd_t gi, ci, hT.1, ← e4, lt_q, gd_t gi, gd_t gi, gd_t gi, gd_t gi, gd_t gi, r1]
      have leaf : ∀ (M : List Int32) (bf : Mem → Option (Unit × Mem)), ar (K i) = 0 → opT K F T i = M → WR bf (own i M) → WX p n K F T bf (tx K F T (f + 1) i) (i + 1) (eN K i) (bgn K F T (f + 1) i) (enn K F T (f + 1) i) := fun M bf a0 hM hW => by
        have et : tx K F T (f + 1) i = own i M := by
          show (if ar (K i) = 0 then own i (opT K F T i) else _) = _
          rw [if_pos a0, hM]
        rw [et, wf_ar0 hwf hi a0]
        exact WX_s hW _ _ _
      have parts : 1 ≤ ar (K i) → WX p n K F T (f_Pa_writeWithParts (F_Pa_writeTerm (f + 1)) p (nI i) (nI d)) (tx K F T (f + 1) i) (i + 1) (eN K i) (bgn K F T (f + 1) i) (enn K F T (f + 1) i) := fun ha => by
        refine W_parts hn hwf hk hi rfl (F_Pa_writeTerm (f + 1)) ha ?_ (fun a2 => ?_)
        · rw [nI_1]
          rcases hc with ⟨q, _⟩ | ⟨q, h1⟩ | ⟨q, x, h1, h2⟩
          · omega
          · obtain ⟨w1, w2, _⟩ := wf_ar1 hwf hi q
            exact ih (i + 1) (by omega) (by rw [w1]; exact h1) (d + 1) (by omega)
          · obtain ⟨w1, w2, w3, _⟩ := wf_ar2 hwf hi q
            exact ih (i + 1) (by omega) (by rw [eN_of (by omega) h1]; exact h1) (d + 1) (by omega)
        · rw [nI_1]
          rcases hc with ⟨q, _⟩ | ⟨q, h1⟩ | ⟨q, x, h1, h2⟩
          · omega
          · omega
          · obtain ⟨w1, w2, w3, _⟩ := wf_ar2 hwf hi q
            have ex := eN_of (K := K) (by omega) h1
            have := ih (eN K (i + 1)) (by omega) (by rw [w3, ex]; exact h2) (d + 1) (by omega)
            rw [w3] at this
            exact this
      rw [un]
      rcases k1 with q | q | q | q | q | q | q
      · exact ⟨_, leaf [63] _ (by rw [q]; rfl) (op_0 q) (WR_1 63 i), by rw [if_neg (by rw [q]; decide), if_neg (by rw [q]; decide), if_pos q]⟩
      · exact ⟨_, leaf _ _ (by rw [q]; rfl) (op_1 q) (W_num (F i) i), by rw [if_pos q, r3 (Or.inl q)]⟩
      · exact ⟨_, leaf _ _ (by rw [q]; rfl) (op_2 q) (WR_name i (F i)), by rw [if_neg (by rw [q]; decide), if_pos q, r3 (Or.inr (Or.inl q))]⟩
      · exact ⟨_, parts (by rw [q]; decide), by rw [if_neg (by rw [q]; decide), if_neg (by rw [q]; decide), if_neg (by rw [q]; decide)]⟩
      · exact ⟨_, parts (by rw [q]; decide), by rw [if_neg (by rw [q]; decide), if_neg (by rw [q]; decide), if_neg (by rw [q]; decide)]⟩
      · exact ⟨_, parts (by rw [q]; decide), by rw [if_neg (by rw [q]; decide), if_neg (by rw [q]; decide), if_neg (by rw [q]; decide)]⟩
      · exact ⟨_, parts (by rw [q]; decide), by rw [if_neg (by rw [q]; decide), if_neg (by rw [q]; decide), if_neg (by rw [q]; decide)]⟩
    obtain ⟨bf, hb, he⟩ := key
    obtain ⟨σ5, a1, a2, a3, a4, a5⟩ := hb σ4 L R4 T4 hl
    obtain ⟨σ6, e6⟩ : ∃ x, x = sI σ5 10 i (nI (L.length + (tx K F T (f + 1) i).length)) := ⟨_, rfl⟩
    have d9 : σ6.1 9 = σ5.1 9 := by rw [e6, rI_ne (by decide)]
    have d10 : σ6.1 10 = upd (σ5.1 10) i (nI (L.length + (tx K F T (f + 1) i).length)) := by rw [e6, rI_at]
    refine ⟨σ6, ?_, by rw [e6]; exact TC_rI a2 _ (by decide), frT_tr f4 (frT_tr a3 (by rw [e6]; exact frT_rI σ5 _ (by omega))), fun j x y => ?_, fun j hj => ?_⟩
    · show f_Pa_writeTerm (F_Pa_writeTerm (f + 1)) p (nI i) (nI d) σ = _
      rw [he, a1, bn_q]
      unfold f_Pa_writeTerm_J92
      rw [gd_t gi, ci, a2.1, List.length_append, ← e6, lt_q]
    · rw [d9, d10]
      by_cases z : j = i
      · rw [z, pk_us, (a5 i (by omega)).1, c9, pk_us]
        have q1 : bgn K F T (f + 1) i L.length i = L.length := if_pos rfl
        have q2 : enn K F T (f + 1) i L.length i = L.length + (tx K F T (f + 1) i).length := if_pos rfl
        rw [q1, q2]
        exact ⟨rfl, rfl⟩
      · rw [pk_un z]
        exact a4 j (by omega) y
    · rw [d9, d10, pk_un (by omega), (a5 j (by omega)).1, (a5 j (by omega)).2, c9, c10, pk_un (by omega)]
      exact ⟨rfl, rfl⟩
theorem s_fill {σ : Mem} : ∃ σ', f_Ar_fill 0 σ = some ((), σ') ∧ fr (fun c => c = 8) σ σ' ∧ ∀ k, k < 220 → σ'.2 8 k = 0 := by
  have key : ∀ (d k : Nat) (σ : Mem), k + d = 220 → (∀ q, q < k → σ.2 8 q = 0) → ∃ σ', loopF (fun (q : (Int32 × Mem)) => f_Ar_fill_L6 0 220 q.1 q.2) (d + 1) (nI k, σ) = some ((), σ') ∧ fr (fun c => c = 8) σ σ' ∧ ∀ q, q < 220 → σ'.2 8 q = 0 := by
    intro d
    induction d with
    | zero =>
      intro k σ hk hq
      obtain rfl : k = 220 := by omega
      exact ⟨σ, lp_exit rfl, fr_rf _ _, hq⟩
    | succ d ih =>
      intro k σ hk hq
      obtain ⟨σ3, e3⟩ : ∃ x, x = sL σ 8 k 0 := ⟨_, rfl⟩
      have c8 : σ3.2 8 = vp_updL (σ.2 8) k 0 := by rw [e3, rL_at]
      obtain ⟨σ', a1, a2, a3⟩ := ih (k + 1) σ3 (by omega) (fun q hq' => by
        rw [c8]
        by_cases z : q = k
        · rw [z, vL_us]
        · rw [vL_un z]; exact hq q (by omega))
      refine ⟨σ', lp_step (b := (nI (k + 1), σ3)) ?_ a1, fr_tr (by rw [e3]; exact fr_rL _ _ rfl) a2, a3⟩
      show f_Ar_fill_L6 0 220 (nI k) σ = _
      unfold f_Ar_fill_L6
      rw [if_neg (fun z => by have := (nIle (a := 220) (by decide) (by omega)).mp z; omega), gd_t (inb_nI (by omega) (by decide)), nI_cl (by omega), ← e3, lt_q, lt_q, nI_1]
  obtain ⟨σ', a1, a2, a3⟩ := key 220 0 σ rfl (fun q hq => by omega)
  refine ⟨σ', ?_, a2, a3⟩
  unfold f_Ar_fill
  rw [lt_q, lt_q]
  exact lp_FU a1 (by decide)
theorem wo_nil (k : Nat) : ∀ j, wo [] k j = 0#64
  | 0 => rfl
  | j + 1 => by
    show wo [] k j ||| chB [] (8 * k + j) j = _
    rw [wo_nil k j]
    show 0#64 ||| 0#64 = 0#64
    decide
theorem s_clear {σ : Mem} : ∃ σ', f_Pa_clear σ = some ((), σ') ∧ TC σ' [] ∧ frT σ σ' := by
  obtain ⟨σ2, a1, a2, a3⟩ := s_fill (σ := σ)
  obtain ⟨σ3, e3⟩ : ∃ x, x = sI σ2 7 3 0 := ⟨_, rfl⟩
  refine ⟨σ3, ?_, ⟨by rw [e3, rI_at, pk_us]; rfl, fun k hk => ?_⟩, ⟨?_, fun q hq => ?_⟩⟩
  · unfold f_Pa_clear
    rw [a1, bn_q, lt_q, ← e3]
  · rw [e3]
    show (σ2.2 8 k).toBitVec = _
    rw [a3 k hk, wo_nil]
    rfl
  · rw [e3]; exact fr_tr (fr_mono a2 (fun c q => by unfold cW; omega)) (fr_rI _ _ (by unfold cW; omega))
  · rw [e3, rI_at, pk_un hq, (a2 7 (by decide)).1]
end PAGE
def PCp : PCt := fun n K F T w b e => (∀ k, k < 220 → (w k).toBitVec = wo (tx K F T 12 0) k 8) ∧ ∀ j, j < n → b j = nI (bgn K F T 12 0 0 j) ∧ e j = nI (enn K F T 12 0 0 j)
def PMp : PMt := fun n K F T l o b len => len = nI (tx K F T 12 0).length ∧ (∀ j x, (tx K F T 12 0)[j]? = some x → l j = x.1 ∧ o j = nI x.2) ∧ ∀ j, j < n → b j = nI (bgn K F T 12 0 0 j)
section PAGE2
variable {TY : TYt} {σ : Mem} {n c p kp pb ch : Nat} {K F : Nat → Int32} {T : Nat → Int64} {Hs Ps : Nat → Pg}
theorem IV_written (h : IV TY PCp PMp σ (n, c, K, F, T) p kp pb ch Hs Ps) (hch : ch ≤ 1000) : ∃ σ1, f_Be_written σ = some (7, σ1) ∧ IV TY PCp PMp σ1 (n, c, K, F, T) p kp pb ch Hs Ps ∧ σ1.1 7 4 = nI ch ∧ PCp n K F T (σ1.2 8) (σ1.1 9) (σ1.1 10) := by
  obtain ⟨h1, h2, h3, h4, h5, h6⟩ := id h
  have hn : n ≤ 40 := h1.1.2.1
  have hc : c < n := h1.1.2.2.1
  have hwf : wf K n := okP_wf h1.1
  have e14 : σ.1 1 4 = nI ch := h2.2.2.1.2.2.2
  rcases h5 with ⟨q1, q2⟩ | ⟨q1, q2, q3⟩
  · obtain ⟨σ1, e1⟩ : ∃ s, s = sI σ 7 4 (nI ch) := ⟨_, rfl⟩
    have f1 : fr cW σ σ1 := by rw [e1]; exact fr_rI _ _ (by unfold cW; omega)
    obtain ⟨σ3, b1, b2, b3⟩ := s_clear (σ := σ1)
    have f3 : fr cW σ σ3 := fr_tr f1 b3.1
    have h3' : CV σ3 (n, c, K, F, T) p kp pb ch Hs Ps := CV_fr h2 f3 (fun c hc => by unfold cE at hc; unfold cW; omega)
    have hok : okK n K F T := h1.1.2.2.2
    have ln : (tx K F T 12 0).length ≤ 44 * (n - 0) := tx_len hok 12 h1.1.1 (by decide) (Nat.le_refl _)
    obtain ⟨σ2, a1, a2, a3, a4, a5⟩ := W_term (p := p) hn hwf hok 12 0 (by omega) (by rw [wf_root hwf]; exact h1.1.1) 0 (by omega) σ3 [] ⟨h3'.2.2.2.1.1, h3'.2.2.2.1.2.2⟩ b2 (by show 0 + _ ≤ 1760; omega)
    rw [wf_root hwf] at a4
    rw [List.nil_append] at a2
    have fA : fr cW σ σ2 := fr_tr f3 a3.1
    have c3 : σ2.1 7 4 = nI ch := by rw [a3.2 4 (by decide), b3.2 4 (by decide), e1, rI_at, pk_us]
    have hT : PCp n K F T (σ2.2 8) (σ2.1 9) (σ2.1 10) := ⟨a2.2, fun j hj => a4 j (Nat.zero_le _) hj⟩
    have g : ∀ c, c < 7 ∨ 10 < c → σ2.1 c = σ.1 c ∧ σ2.2 c = σ.2 c := fun c hc => fA c (by unfold cW; omega)
    refine ⟨σ2, ?_, ⟨h1, CV_fr h2 fA (fun c hc => by unfold cE at hc; unfold cW; omega), MV_fr h3 fA (fun c hc => by unfold mE at hc; unfold cW; omega), ?_, Or.inr ⟨c3, hT, Or.inl ?_⟩, ?_⟩, c3, hT⟩
    · unfold f_Be_written f_Be_written_J54
      rw [e14, if_neg (q1 ch (Nat.le_refl _) hch), lt_q, ← e1, b1, bn_q, s_Hi_present h3'.2.2.1 h3'.1, bn_q, gd_t (decide_eq_true h3'.1)]
      have : F_Pa_writeTerm 13 p 0 0 σ3 = _ := a1
      rw [this, bn_q]
    · exact TyI_fr h4 c (by rw [(g 3 (by decide)).1]) (g 4 (by decide)).2 (g 5 (by decide)).2 (g 6 (by decide)).1 (g 24 (by decide)).2 (g 25 (by decide)).2 (g 26 (by decide)).1 (by rw [(g 15 (by decide)).1])
    · rw [(g 15 (by decide)).1]; exact q2
    · unfold NuI
      rw [(g 11 (by decide)).1, (g 15 (by decide)).1]; exact h6
  · refine ⟨σ, ?_, h, q1, q2⟩
    unfold f_Be_written f_Be_written_J54
    rw [e14, if_pos q1]
theorem IV_spell (h : IV TY PCp PMp σ (n, c, K, F, T) p kp pb ch Hs Ps) (hch : ch ≤ 1000) (hv : σ.1 7 4 = nI ch) : ∃ σ2, f_Mo_spell σ = some ((), σ2) ∧ IV TY PCp PMp σ2 (n, c, K, F, T) p kp pb ch Hs Ps ∧ PMp n K F T (σ2.1 27) (σ2.1 28) (σ2.1 29) (σ2.1 15 17) ∧ σ2.1 9 = σ.1 9 ∧ σ2.1 10 = σ.1 10 ∧ σ2.2 8 = σ.2 8 := by
  obtain ⟨h1, h2, h3, h4, h5, h6⟩ := id h
  rcases h5 with ⟨q1, q2⟩ | ⟨q1, q2, q3⟩
  · exact absurd hv (q1 ch (Nat.le_refl _) hch)
  rcases q3 with q3 | ⟨q3, q4⟩
  · obtain ⟨σ2, a1, a2, a3, a4, a5, a6⟩ := s_spell h1.1.2.1 h1.1.2.2.2 h1.1.1 (σ := σ) ⟨h3.1.1, h3.1.2.2⟩ q3
    have g : ∀ c, c < 15 ∨ 16 ≤ c ∧ c < 27 ∨ 32 < c → σ2.1 c = σ.1 c ∧ σ2.2 c = σ.2 c := fun c hc => a4 c (by unfold mSp; omega)
    have hM : PMp n K F T (σ2.1 27) (σ2.1 28) (σ2.1 29) (σ2.1 15 17) := ⟨a2.1, a2.2, a3⟩
    have e3 : σ2.1 7 4 = nI ch := by rw [(g 7 (by omega)).1]; exact q1
    refine ⟨σ2, a1, ⟨h1, CV_fr h2 a4 (fun c hc => by unfold cE at hc; unfold mSp; omega), MV_15 h3 a4 (fun c x y => by unfold mSp; omega) (fun q hq => a6 q (by omega) (by omega)), ?_, Or.inr ⟨e3, ?_, Or.inr ⟨a5, hM⟩⟩, ?_⟩, hM, (g 9 (by omega)).1, (g 10 (by omega)).1, (g 8 (by omega)).2⟩
    · exact TyI_fr h4 c (by rw [(g 3 (by decide)).1]) (g 4 (by decide)).2 (g 5 (by decide)).2 (g 6 (by decide)).1 (g 24 (by decide)).2 (g 25 (by decide)).2 (g 26 (by decide)).1 (a6 12 (by decide) (by decide))
    · rw [(g 8 (by omega)).2, (g 9 (by omega)).1, (g 10 (by omega)).1]; exact q2
    · exact ⟨by rw [(g 11 (by omega)).1, a6 25 (by decide) (by decide)]; exact h6.1, by rw [(g 11 (by omega)).1, a6 24 (by decide) (by decide)]; exact h6.2⟩
  · refine ⟨σ, ?_, h, q4, rfl, rfl, rfl⟩
    unfold f_Mo_spell
    rw [q3, if_neg (by decide)]
theorem ok_column {k : Nat} (hk : k < 900) (hI : Inv TY PCp PMp k σ) : Ok TY PCp PMp (k + 1) σ f_Be_column f_Mo_column := by
  obtain ⟨⟨n, c, K, F, T⟩, p, kp, pb, ch, Hs, Ps, hk2, h⟩ := id hI
  obtain ⟨σ1, a1, a2, a3, a4⟩ := IV_written h (by omega)
  obtain ⟨σ2, b1, b2, b3, b4, b5, b6⟩ := IV_spell a2 (by omega) a3
  have hn : n ≤ 40 := h.1.1.2.1
  have hc : c < n := h.1.1.2.2.1
  have ec : σ1.1 (cP p) 5 = nI c := a2.2.1.2.2.2.1.2.1
  have em : σ2.1 15 1 = nI c := b2.2.2.1.1.2.1
  refine ⟨nI (bgn K F T 12 0 0 c), σ1, σ2, ?_, ?_, _, _, _, _, _, _, _, (by omega : ch ≤ k + 1), b2⟩
  · unfold f_Be_column
    rw [a1, bn_q, IV_present a2, bn_q, gd_t (IV_p a2), ec, gd_t (inb_nI (by omega) (by decide)), nI_cl (by omega), (a4.2 c hc).1]
  · unfold f_Mo_column
    rw [b1, bn_q, em, gd_t (inb_nI (by omega) (by decide)), nI_cl (by omega), b3.2.2 c hc]
end PAGE2
