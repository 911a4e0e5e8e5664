/-! room around the cursor; copies; the ring -/
/-- as bn_s, but not by rfl in simp's eyes: the kernel must not compare with an unfolded loop -/
theorem bn_q {α β : Type} {r : α} {σ : Mem} {f : α → Mem → Option β} : bn (some (r, σ)) f = f r σ := by
  rw [bn]
def mxd (K : Nat → Int32) (c : Nat) : Nat → Nat
  | 0 => dp K c
  | m + 1 => max (mxd K c m) (dp K (c + m))
theorem mxd_lt {K : Nat → Int32} {c b : Nat} (h0 : dp K c < b) : ∀ (m : Nat), mxd K c m < b ↔ ∀ j, j < m → dp K (c + j) < b := by
  intro m
  induction m with
  | zero => exact ⟨fun _ j hj => by omega, fun _ => h0⟩
  | succ m ih =>
    unfold mxd
    rw [Nat.max_lt, ih]
    exact ⟨fun h j hj => by
      by_cases q : j = m
      · subst q; exact h.2
      · exact h.1 j (by omega), fun h => ⟨fun j hj => h j (by omega), h m (by omega)⟩⟩
theorem mxd_le {K : Nat → Int32} {c b : Nat} (m : Nat) (h : ∀ j, c ≤ j → j < c + (m + 1) → dp K j < b) : mxd K c m < b := (mxd_lt (h c (Nat.le_refl _) (by omega)) m).mpr (fun j hj => h (c + j) (by omega) (by omega))
theorem nI_max {a b : Nat} (ha : a < 2 ^ 31) (hb : b < 2 ^ 31) : (if nI a < nI b then nI b else nI a) = nI (max a b) := by
  by_cases h : a < b
  · rw [if_pos ((nIlt ha hb).mpr h), Nat.max_eq_right (by omega)]
  · rw [if_neg (fun q => h ((nIlt ha hb).mp q)), Nat.max_eq_left (by omega)]
section ROOM
variable {σ : Mem} {i n c : Nat} {K F : Nat → Int32} {T : Nat → Int64}
theorem s_Pr_room (h : atC σ i (n, c, K, F, T)) (hw : wf K n) (hn : n ≤ 40) (hc : c < n) {a : Nat} (ha : a ≤ 2) : f_Pr_hasRoomAround i (nI a) σ = some (if n + a ≤ 40 ∧ mxd K c (eN K c - c) + 1 < 12 then 1 else 0, σ) := by
  obtain ⟨_, e1, e2⟩ := wf_at hw hc
  have hlv := lv_dp h hn
  have hz : σ.1 (cP i) 4 = nI n := h.1
  have hcu : σ.1 (cP i) 5 = nI c := h.2.1
  have hmx : ∀ m, m ≤ eN K c - c → mxd K c m < 99 := fun m hm => mxd_le m (fun j h1 h2 => by
    by_cases q : j < n
    · exact (hlv j q).2
    · have hj : j = n := by omega
      have h1 := List.countP_le_length (p := fun k => decide (j < eN K k)) (l := List.range j)
      rw [List.length_range] at h1
      unfold dp
      omega)
  have key : ∀ (d m : Nat), m + d = eN K c - c → loopF (fun (q : (Int32 × Int32 × Mem)) => f_Pr_hasRoomAround_L25 i (nI a) (nI (eN K c)) q.1 q.2.1 q.2.2) (d + 1) (nI (mxd K c m), nI (c + m), σ) = some (if n + a ≤ 40 ∧ mxd K c (eN K c - c) + 1 < 12 then 1 else 0, σ) := by
    intro d
    induction d with
    | zero =>
      intro m hm
      obtain rfl : m = eN K c - c := by omega
      refine lp_exit ?_
      have em : c + (eN K c - c) = eN K c := by omega
      rw [em]
      have hb := hmx _ (Nat.le_refl _)
      show f_Pr_hasRoomAround_L25 i (nI a) (nI (eN K c)) (nI (mxd K c (eN K c - c))) (nI (eN K c)) σ = _
      generalize mxd K c (eN K c - c) = M at hb ⊢
      unfold f_Pr_hasRoomAround_L25 f_Pr_hasRoomAround_J72 f_Pr_hasRoomAround_J73
      have l40 : (40 : Int32) = nI 40 := rfl
      have l12 : (12 : Int32) = nI 12 := rfl
      rw [if_pos ((nIle (by omega) (by omega)).mpr (Nat.le_refl _)), hz, nI_add, nI_1, l40, l12]
      have q40 : nI 40 < nI (n + a) ↔ 40 < n + a := nIlt (by omega) (by omega)
      have q12 : nI 12 ≤ nI (M + 1) ↔ 12 ≤ M + 1 := nIle (by omega) (by omega)
      by_cases q : 40 < n + a
      · rw [if_pos (q40.mpr q), if_neg (by omega)]
        rfl
      · rw [if_neg (fun z => q (q40.mp z))]
        by_cases w : 12 ≤ M + 1
        · rw [if_pos (q12.mpr w), if_neg (by omega)]
          rfl
        · rw [if_neg (fun z => w (q12.mp z)), if_pos (by omega)]
          rfl
    | succ d ih =>
      intro m hm
      refine lp_step (b := (nI (mxd K c (m + 1)), nI (c + (m + 1)), σ)) ?_ (ih (m + 1) (by omega))
      show f_Pr_hasRoomAround_L25 i (nI a) (nI (eN K c)) (nI (mxd K c m)) (nI (c + m)) σ = _
      have hb := hmx m (by omega)
      have hb2 := (hlv (c + m) (by omega)).2
      unfold f_Pr_hasRoomAround_L25
      rw [if_neg (fun z => by have := (nIle (by omega) (by omega)).mp z; omega), gd_t (inb_nI (by omega) (by decide)), nI_clamp (by omega), (hlv (c + m) (by omega)).1, nI_max (by omega) (by omega)]
      simp only [lt_]
      rw [nI_1]
      have em1 : mxd K c (m + 1) = max (mxd K c m) (dp K (c + m)) := rfl
      rw [em1, Nat.add_assoc]
  unfold f_Pr_hasRoomAround
  rw [hcu, gd_t (inb_nI (by omega) (by decide)), nI_clamp (by omega)]
  simp only [lt_]
  rw [(hlv c hc).1, s_Pr_end hn hz h.2.2 hw hc]
  rw [bn_q]
  rw [hcu]
  have k0 := key (eN K c - c) 0 (by omega)
  have em0 : mxd K c 0 = dp K c := rfl
  rw [em0, Nat.add_zero] at k0
  exact lp_FU k0 (by omega)
end ROOM
theorem raw_any (σ : Mem) (i : Nat) : ∃ n c, raw σ i n c (σ.1 (cPk i)) (σ.1 (cPf i)) (σ.2 (cPt i)) (σ.1 (cPl i)) := by
  have of32 : ∀ x : Int32, ∃ n, x = nI n := fun x => ⟨x.toBitVec.toNat, Int32.toBitVec_inj.mp (by show _ = BitVec.ofNat 32 _; simp)⟩
  obtain ⟨n, hn⟩ := of32 (σ.1 (cP i) 4)
  obtain ⟨c, hc⟩ := of32 (σ.1 (cP i) 5)
  exact ⟨n, c, hn, hc, rfl, rfl, rfl, rfl⟩
theorem isP_ne {i j c : Nat} (hij : i ≠ j) (h : isP j c) : ¬ isP i c := fun q => hij ((isP_in q).symm.trans (isP_in h))
theorem atC_fr {σ σ' : Mem} {S : Nat → Prop} {j : Nat} {A : Pg} (h : atC σ j A) (hf : fr S σ σ') (hS : ∀ c, isP j c → ¬ S c) : atC σ' j A := by
  obtain ⟨h1, h2, h3⟩ := h
  have f0 := (hf (cP j) (hS _ (isP_0 j))).1
  have fk := (hf (cPk j) (hS _ (isP_k j))).1
  have ff := (hf (cPf j) (hS _ (isP_f j))).1
  have ft := (hf (cPt j) (hS _ (isP_t j))).2
  have fl := (hf (cPl j) (hS _ (isP_l j))).1
  refine ⟨by rw [f0]; exact h1, by rw [f0]; exact h2, fun q hq => ?_⟩
  rw [fk, ff, ft, fl]
  exact h3 q hq
theorem s_Pr_copy {σ : Mem} {i j : Nat} {A : Pg} (hij : i ≠ j) (h : atC σ j A) (hn : A.1 ≤ 40) : ∃ σ', f_Pr_copy i j σ = some ((), σ') ∧ fr (isP i) σ σ' ∧ atC σ' i A := by
  obtain ⟨n0, c0, r0⟩ := raw_any σ i
  obtain ⟨n, c, K, F, T⟩ := A
  have hz : σ.1 (cP j) 4 = nI n := h.1
  have hcu : σ.1 (cP j) 5 = nI c := h.2.1
  have hn : n ≤ 40 := hn
  have src : ∀ {σ1 : Mem}, fr (isP i) σ σ1 → σ1.1 (cP j) = σ.1 (cP j) ∧ σ1.1 (cPk j) = σ.1 (cPk j) ∧ σ1.1 (cPf j) = σ.1 (cPf j) ∧ σ1.2 (cPt j) = σ.2 (cPt j) ∧ σ1.1 (cPl j) = σ.1 (cPl j) := fun g => ⟨(g _ (isP_ne hij (isP_0 j))).1, (g _ (isP_ne hij (isP_k j))).1, (g _ (isP_ne hij (isP_f j))).1, (g _ (isP_ne hij (isP_t j))).2, (g _ (isP_ne hij (isP_l j))).1⟩
  have z0 : (0 : Int32) = nI 0 := rfl
  have ok : cpOk (nI 0) (nI 0) (nI n) 40 40 = true := cpOk_nI (by omega) (by omega) (by decide) (by decide)
  unfold f_Pr_copy
  simp only [lt_]
  rw [hz]
  have r1 := raw_n r0 (v := nI n) n rfl
  have g1 : fr (isP i) σ (sI σ (cP i) 4 (nI n)) := fr_rI (S := isP i) σ (upd (σ.1 (cP i)) 4 (nI n)) (isP_0 i)
  generalize sI σ (cP i) 4 (nI n) = σ1 at r1 g1 ⊢
  rw [(src g1).1, hcu]
  have r2 := raw_c r1 (v := nI c) c rfl
  have g2 : fr (isP i) σ (sI σ1 (cP i) 5 (nI c)) := fr_tr g1 (fr_rI (S := isP i) σ1 (upd (σ1.1 (cP i)) 5 (nI c)) (isP_0 i))
  generalize sI σ1 (cP i) 5 (nI c) = σ2 at r2 g2 ⊢
  rw [r2.1, z0, gd_t ok, (src g2).2.1, nI_clamp (by omega), nI_clamp (by omega)]
  have r3 := raw_k r2 (va_cpy (σ.1 (cPk j)) (σ2.1 (cPk i)) 0 0 n)
  have g3 := fr_tr g2 (fr_rI (S := isP i) σ2 (va_cpy (σ.1 (cPk j)) (σ2.1 (cPk i)) 0 0 n) (isP_k i))
  generalize ek : va_cpy (σ.1 (cPk j)) (σ2.1 (cPk i)) 0 0 n = k' at r3 g3 ⊢
  generalize rI σ2 (cPk i) k' = σ3 at r3 g3 ⊢
  rw [r3.1, gd_t ok, (src g3).2.2.1, nI_clamp (by omega)]
  have r4 := raw_f r3 (va_cpy (σ.1 (cPf j)) (σ3.1 (cPf i)) 0 0 n)
  have g4 := fr_tr g3 (fr_rI (S := isP i) σ3 (va_cpy (σ.1 (cPf j)) (σ3.1 (cPf i)) 0 0 n) (isP_f i))
  generalize ef : va_cpy (σ.1 (cPf j)) (σ3.1 (cPf i)) 0 0 n = f' at r4 g4 ⊢
  generalize rI σ3 (cPf i) f' = σ4 at r4 g4 ⊢
  rw [r4.1, gd_t ok, (src g4).2.2.2.1, nI_clamp (by omega)]
  have r5 := raw_t r4 (va_cpy (σ.2 (cPt j)) (σ4.2 (cPt i)) 0 0 n)
  have g5 := fr_tr g4 (fr_rL (S := isP i) σ4 (va_cpy (σ.2 (cPt j)) (σ4.2 (cPt i)) 0 0 n) (isP_t i))
  generalize et : va_cpy (σ.2 (cPt j)) (σ4.2 (cPt i)) 0 0 n = t' at r5 g5 ⊢
  generalize rL σ4 (cPt i) t' = σ5 at r5 g5 ⊢
  rw [r5.1, gd_t ok, (src g5).2.2.2.2, nI_clamp (by omega)]
  have r6 := raw_l r5 (va_cpy (σ.1 (cPl j)) (σ5.1 (cPl i)) 0 0 n)
  have g6 := fr_tr g5 (fr_rI (S := isP i) σ5 (va_cpy (σ.1 (cPl j)) (σ5.1 (cPl i)) 0 0 n) (isP_l i))
  refine ⟨_, rfl, g6, atC_of r6 (fun q hq => ?_) (fun q hq => ?_)⟩
  · have hr := (rowC_iff.mp h.2.2).1 q hq
    rw [← ek, ← ef, ← et, sb_cpy0 hq, sb_cpy0 hq, pk_cpy_in (by omega) (by omega)]
    simpa using hr
  · rw [sb_cpy0 hq]
    exact (h.2.2 q hq).2.1
/-- the history's own numbers: place, kept, put by, changes -/
def atH (σ : Mem) (p kp pb ch : Nat) : Prop := σ.1 1 1 = nI p ∧ σ.1 1 2 = nI kp ∧ σ.1 1 3 = nI pb ∧ σ.1 1 4 = nI ch
theorem s_Hi_present {σ : Mem} {p kp pb ch : Nat} (h : atH σ p kp pb ch) (hp : p < 17) : f_Hi_present σ = some (p, σ) := by
  unfold f_Hi_present
  simp only [lt_]
  rw [h.1, gd_t (inb_nI hp (by decide)), nI_clamp (by omega)]
theorem cP1 (i : Nat) (c : Nat) (h : isP i c) : c ≠ 1 := by have := isP_ge h; omega
theorem s_Hi_keep {σ : Mem} {p kp pb ch : Nat} {A : Pg} (h : atH σ p kp pb ch) (hp : p < 17) (hkp : kp ≤ 16) (hch : ch < 1000) (hA : atC σ p A) (hn : A.1 ≤ 40) : ∃ σ', f_Hi_keep σ = some ((p + 1) % 17, σ') ∧ fr (fun c => c = 1 ∨ isP ((p + 1) % 17) c) σ σ' ∧ atH σ' ((p + 1) % 17) (min (kp + 1) 16) 0 (ch + 1) ∧ atC σ' ((p + 1) % 17) A := by
  obtain ⟨q, hq⟩ : ∃ q, q = (p + 1) % 17 := ⟨_, rfl⟩
  have hqp : q ≠ p := by omega
  have hq17 : q < 17 := by omega
  rw [← hq]
  unfold f_Hi_keep
  rw [s_Hi_present h hp]
  simp only [bn_s, lt_]
  rw [gd_t (decide_eq_true hp), h.1, nI_1]
  have e1 : nI (p + 1) - nI (p + 1) / 17 * 17 = nI q := by
    have := pk_rem (a := p + 1) (d := 17) (by omega) (by decide) (by decide)
    rw [hq]
    exact this
  rw [e1]
  have w1 : ∀ (x : Nat → Int32) (v : Int32), upd x 1 v 2 = x 2 ∧ upd x 1 v 3 = x 3 ∧ upd x 1 v 4 = x 4 := fun x v => ⟨pk_un (by decide), pk_un (by decide), pk_un (by decide)⟩
  have e2 : (sI σ 1 1 (nI q)).1 1 2 = nI kp := by rw [rI_at, (w1 _ _).1]; exact h.2.1
  rw [e2, nI_1]
  have e3 : (if (16 : Int32) < nI (kp + 1) then (16 : Int32) else nI (kp + 1)) = nI (min (kp + 1) 16) := by
    have l16 : (16 : Int32) = nI 16 := rfl
    have q16 : nI 16 < nI (kp + 1) ↔ 16 < kp + 1 := nIlt (by omega) (by omega)
    rw [l16]
    by_cases z : 16 < kp + 1
    · rw [if_pos (q16.mpr z), Nat.min_eq_right (by omega)]
    · rw [if_neg (fun w => z (q16.mp w)), Nat.min_eq_left (by omega)]
  rw [e3]
  obtain ⟨σ4, hσ4⟩ : ∃ σ4, σ4 = sI (sI (sI (sI σ 1 1 (nI q)) 1 2 (nI (min (kp + 1) 16))) 1 3 0) 1 4 (nI (ch + 1)) := ⟨_, rfl⟩
  have e4 : (sI (sI (sI σ 1 1 (nI q)) 1 2 (nI (min (kp + 1) 16))) 1 3 0).1 1 4 + 1 = nI (ch + 1) := by
    rw [rI_at, pk_un (by decide), rI_at, pk_un (by decide), rI_at, pk_un (by decide), h.2.2.2, nI_1]
  rw [e4, ← hσ4]
  have h4 : atH σ4 q (min (kp + 1) 16) 0 (ch + 1) := by
    rw [hσ4]
    refine ⟨?_, ?_, ?_, ?_⟩
    · rw [rI_at, pk_un (by decide), rI_at, pk_un (by decide), rI_at, pk_un (by decide), rI_at, pk_us]
    · rw [rI_at, pk_un (by decide), rI_at, pk_un (by decide), rI_at, pk_us]
    · rw [rI_at, pk_un (by decide), rI_at, pk_us]; rfl
    · rw [rI_at, pk_us]
  have g4 : fr (fun c => c = 1) σ σ4 := by
    rw [hσ4]
    exact fr_tr (fr_tr (fr_tr (fr_rI _ _ rfl) (fr_rI _ _ rfl)) (fr_rI _ _ rfl)) (fr_rI _ _ rfl)
  rw [s_Hi_present h4 hq17]
  simp only [bn_s]
  rw [gd_t (decide_eq_true hq17)]
  obtain ⟨σ5, a1, a2, a3⟩ := s_Pr_copy (i := q) (j := p) hqp (atC_fr hA g4 (fun c hc => cP1 p c hc)) hn
  rw [a1]
  simp only [bn_s]
  have h5 : atH σ5 q (min (kp + 1) 16) 0 (ch + 1) := by
    unfold atH
    rw [(a2 1 (fun z => cP1 q 1 z rfl)).1]
    exact h4
  rw [s_Hi_present h5 hq17]
  simp only [bn_s]
  rw [gd_t (decide_eq_true hq17)]
  exact ⟨σ5, rfl, fr_tr (fr_mono g4 (fun c z => Or.inl z)) (fr_mono a2 (fun c z => Or.inr z)), h5, a3⟩
theorem s_Hi_back {σ : Mem} {p kp pb ch : Nat} (h : atH σ p kp pb ch) (hp : p < 17) (h0 : 0 < kp) (hkp : kp ≤ 16) : ∃ σ', f_Hi_stepBack σ = some (1, σ') ∧ fr (fun c => c = 1) σ σ' ∧ atH σ' ((p + 16) % 17) (kp - 1) (pb + 1) (ch + 1) := by
  unfold f_Hi_stepBack
  simp only [lt_]
  rw [h.2.1, if_neg (nI_ne0 h0 (by omega)), h.1]
  have e0 : nI p + 17 - 1 = nI (p + 16) := by
    have a1 : nI p + 17 = nI (p + 16 + 1) := nI_add p 17
    rw [a1, nI_pred]
  have e1 : nI (p + 16) - nI (p + 16) / 17 * 17 = nI ((p + 16) % 17) := pk_rem (a := p + 16) (d := 17) (by omega) (by decide) (by decide)
  rw [e0, e1]
  refine ⟨_, rfl, fr_tr (fr_tr (fr_tr (fr_rI _ _ rfl) (fr_rI _ _ rfl)) (fr_rI _ _ rfl)) (fr_rI _ _ rfl), ?_, ?_, ?_, ?_⟩
  · rw [rI_at, pk_un (by decide), rI_at, pk_un (by decide), rI_at, pk_un (by decide), rI_at, pk_us]
  · rw [rI_at, pk_un (by decide), rI_at, pk_un (by decide), rI_at, pk_us, rI_at, pk_un (by decide), h.2.1]
    obtain ⟨k, rfl⟩ : ∃ k, kp = k + 1 := ⟨kp - 1, by omega⟩
    rw [nI_pred]
    rfl
  · rw [rI_at, pk_un (by decide), rI_at, pk_us, rI_at, pk_un (by decide), rI_at, pk_un (by decide), h.2.2.1, nI_1]
  · rw [rI_at, pk_us, rI_at, pk_un (by decide), rI_at, pk_un (by decide), rI_at, pk_un (by decide), h.2.2.2, nI_1]
theorem s_Hi_back0 {σ : Mem} {p pb ch : Nat} (h : atH σ p 0 pb ch) : f_Hi_stepBack σ = some (0, σ) := by
  unfold f_Hi_stepBack
  rw [h.2.1, if_pos (show nI 0 = 0 from rfl)]
theorem s_Hi_forth {σ : Mem} {p kp pb ch : Nat} (h : atH σ p kp pb ch) (hp : p < 17) (h0 : 0 < pb) (hpb : pb ≤ 16) : ∃ σ', f_Hi_stepForth σ = some (1, σ') ∧ fr (fun c => c = 1) σ σ' ∧ atH σ' ((p + 1) % 17) (kp + 1) (pb - 1) (ch + 1) := by
  unfold f_Hi_stepForth
  simp only [lt_]
  rw [h.2.2.1, if_neg (nI_ne0 h0 (by omega)), h.1, nI_1]
  have e1 : nI (p + 1) - nI (p + 1) / 17 * 17 = nI ((p + 1) % 17) := pk_rem (a := p + 1) (d := 17) (by omega) (by decide) (by decide)
  rw [e1]
  refine ⟨_, rfl, fr_tr (fr_tr (fr_tr (fr_rI _ _ rfl) (fr_rI _ _ rfl)) (fr_rI _ _ rfl)) (fr_rI _ _ rfl), ?_, ?_, ?_, ?_⟩
  · rw [rI_at, pk_un (by decide), rI_at, pk_un (by decide), rI_at, pk_un (by decide), rI_at, pk_us]
  · rw [rI_at, pk_un (by decide), rI_at, pk_un (by decide), rI_at, pk_us, rI_at, pk_un (by decide), h.2.1, nI_1]
  · rw [rI_at, pk_un (by decide), rI_at, pk_us, rI_at, pk_un (by decide), rI_at, pk_un (by decide), h.2.2.1]
    obtain ⟨k, rfl⟩ : ∃ k, pb = k + 1 := ⟨pb - 1, by omega⟩
    rw [nI_pred]
    rfl
  · rw [rI_at, pk_us, rI_at, pk_un (by decide), rI_at, pk_un (by decide), rI_at, pk_un (by decide), h.2.2.2, nI_1]
theorem s_Hi_forth0 {σ : Mem} {p kp ch : Nat} (h : atH σ p kp 0 ch) : f_Hi_stepForth σ = some (0, σ) := by
  unfold f_Hi_stepForth
  rw [h.2.2.1, if_pos (show nI 0 = 0 from rfl)]
