/-! TEXT: a row of characters, each with the term that owns it -/
abbrev Tp : Type := List (Int32 × Nat)
def chB (L : Tp) (q j : Nat) : BitVec 64 := match L[q]? with
  | none => 0#64
  | some x => x.1.toInt64.toBitVec <<< (8 * j)
def wo (L : Tp) (k : Nat) : Nat → BitVec 64
  | 0 => 0#64
  | j + 1 => wo L k j ||| chB L (8 * k + j) j
/-- the class's tape -/
def TC (σ : Mem) (L : Tp) : Prop := σ.1 7 3 = nI L.length ∧ ∀ k, k < 220 → (σ.2 8 k).toBitVec = wo L k 8
/-- the reference's tape -/
def TM (σ : Mem) (L : Tp) : Prop := σ.1 15 17 = nI L.length ∧ ∀ j x, L[j]? = some x → σ.1 27 j = x.1 ∧ σ.1 28 j = nI x.2
theorem ap_at {L : Tp} {x : Int32 × Nat} : (L ++ [x])[L.length]? = some x := by simp
theorem ap_ne {L : Tp} {x : Int32 × Nat} {q : Nat} (h : q ≠ L.length) : (L ++ [x])[q]? = L[q]? := by
  by_cases z : q < L.length
  · rw [List.getElem?_append_left z]
  · rw [List.getElem?_eq_none (by simp; omega), List.getElem?_eq_none (by omega)]
theorem chB_ne {L : Tp} {x : Int32 × Nat} {q : Nat} (j : Nat) (h : q ≠ L.length) : chB (L ++ [x]) q j = chB L q j := by
  unfold chB
  rw [ap_ne h]
theorem chB_no {L : Tp} {q : Nat} (j : Nat) (h : L.length ≤ q) : chB L q j = 0#64 := by
  unfold chB
  rw [List.getElem?_eq_none h]
theorem wo_ne {L : Tp} {x : Int32 × Nat} {k : Nat} : ∀ j, (∀ i, i < j → 8 * k + i ≠ L.length) → wo (L ++ [x]) k j = wo L k j
  | 0, _ => rfl
  | j + 1, h => by
    show wo (L ++ [x]) k j ||| chB (L ++ [x]) (8 * k + j) j = wo L k j ||| chB L (8 * k + j) j
    rw [wo_ne j (fun i hi => h i (by omega)), chB_ne j (h j (by omega))]
theorem wo_at {L : Tp} {x : Int32 × Nat} {k r : Nat} (h : 8 * k + r = L.length) : ∀ d, wo (L ++ [x]) k (r + 1 + d) = wo L k (r + 1 + d) ||| (x.1.toInt64.toBitVec <<< (8 * r))
  | 0 => by
    show wo (L ++ [x]) k r ||| chB (L ++ [x]) (8 * k + r) r = (wo L k r ||| chB L (8 * k + r) r) ||| _
    rw [wo_ne r (fun i hi => by omega), chB_no (L := L) r (by omega), BitVec.or_zero]
    unfold chB
    rw [h, ap_at]
  | d + 1 => by
    show wo (L ++ [x]) k (r + 1 + d) ||| chB (L ++ [x]) (8 * k + (r + 1 + d)) (r + 1 + d) = (wo L k (r + 1 + d) ||| chB L (8 * k + (r + 1 + d)) (r + 1 + d)) ||| _
    rw [wo_at h d, chB_no (L := L ++ [x]) _ (by simp; omega), chB_no (L := L) _ (by omega), BitVec.or_zero, BitVec.or_zero]
theorem sh_bv (x : Int64) {k : Nat} (hk : k < 64) : (x <<< ((nI k).toInt64 &&& 63)).toBitVec = x.toBitVec <<< k := by
  rw [wb_c k hk, Int64.toBitVec_shiftLeft, wb_tb, wb_sm k hk, BitVec.shiftLeft_eq', BitVec.toNat_ofNat, Nat.mod_eq_of_lt (by omega)]
def pgW (c : Nat) : Prop := c = 7 ∨ c = 8
/-- what writing leaves as it was -/
def frW (σ σ' : Mem) : Prop := fr pgW σ σ' ∧ ∀ q, q ≠ 3 → σ'.1 7 q = σ.1 7 q
theorem frW_rf (σ : Mem) : frW σ σ := ⟨fr_rf _ _, fun _ _ => rfl⟩
theorem frW_tr {a b c : Mem} (h1 : frW a b) (h2 : frW b c) : frW a c := ⟨fr_tr h1.1 h2.1, fun q hq => (h2.2 q hq).trans (h1.2 q hq)⟩
theorem s_sign {σ : Mem} {L : Tp} (h : TC σ L) (hl : L.length < 1760) (c : Int32) (o : Nat) : ∃ σ', f_Pa_writeSign c σ = some ((), σ') ∧ TC σ' (L ++ [(c, o)]) ∧ frW σ σ' := by
  obtain ⟨h1, h2⟩ := h
  obtain ⟨l, hle⟩ : ∃ l, l = L.length := ⟨_, rfl⟩
  rw [← hle] at h1 hl
  have d8 : nI l / 8 = nI (l / 8) := pk_div (d := 8) (by omega) (by decide) (by decide)
  have r8 : nI l - nI l / 8 * 8 = nI (l % 8) := pk_rem (d := 8) (by omega) (by decide) (by decide)
  have m8 : (8 : Int32) * nI (l % 8) = nI (8 * (l % 8)) := pk_mul 8 (l % 8)
  obtain ⟨v, hv⟩ : ∃ v, v = σ.2 8 (l / 8) ||| (c.toInt64 <<< ((nI (8 * (l % 8))).toInt64 &&& 63)) := ⟨_, rfl⟩
  obtain ⟨σ3, e3⟩ : ∃ s, s = sL σ 8 (l / 8) v := ⟨_, rfl⟩
  obtain ⟨σ4, e4⟩ : ∃ s, s = sI σ3 7 3 (nI (l + 1)) := ⟨_, rfl⟩
  have c7 : σ3.1 7 3 = nI l := by rw [e3]; exact h1
  have w8 : σ4.2 8 = vp_updL (σ.2 8) (l / 8) v := by rw [e4]; show σ3.2 8 = _; rw [e3, rL_at]
  refine ⟨σ4, ?_, ⟨?_, fun k hk => ?_⟩, ⟨?_, fun q hq => ?_⟩⟩
  · unfold f_Pa_writeSign
    simp only [lt_]
    rw [h1, if_pos (show nI l < 1760 from (nIlt (b := 1760) (by omega) (by decide)).mpr hl), r8, d8, gd_t (inb_nI (by omega) (by decide)), gd_t (inb_nI (by omega) (by decide)), nI_cl (by omega), m8, ← hv, ← e3, c7, nI_1, ← e4]
  · rw [e4, rI_at, pk_us]
    simp [hle]
  · rw [w8]
    by_cases q : k = l / 8
    · rw [q, vL_us, hv, Int64.toBitVec_or, h2 (l / 8) (by omega), sh_bv _ (by omega)]
      have := wo_at (L := L) (x := (c, o)) (k := l / 8) (r := l % 8) (by omega) (7 - l % 8)
      rw [show l % 8 + 1 + (7 - l % 8) = 8 by omega] at this
      rw [this]
    · rw [vL_un q, h2 k hk, wo_ne 8 (fun i hi => by omega)]
  · rw [e4, e3]; exact fr_tr (fr_rL _ _ (Or.inr rfl)) (fr_rI _ _ (Or.inl rfl))
  · rw [e4, rI_at, pk_un hq, e3]
    rfl
def mPg (c : Nat) : Prop := c = 15 ∨ c = 27 ∨ c = 28
/-- what putting leaves as it was -/
def frP (σ σ' : Mem) : Prop := fr mPg σ σ' ∧ ∀ q, q ≠ 17 → σ'.1 15 q = σ.1 15 q
theorem frP_rf (σ : Mem) : frP σ σ := ⟨fr_rf _ _, fun _ _ => rfl⟩
theorem frP_tr {a b c : Mem} (h1 : frP a b) (h2 : frP b c) : frP a c := ⟨fr_tr h1.1 h2.1, fun q hq => (h2.2 q hq).trans (h1.2 q hq)⟩
theorem s_put {σ : Mem} {L : Tp} (h : TM σ L) (hl : L.length < 1800) (c : Int32) (o : Nat) : ∃ σ', f_Mo_put c (nI o) σ = some ((), σ') ∧ TM σ' (L ++ [(c, o)]) ∧ frP σ σ' := by
  obtain ⟨h1, h2⟩ := h
  obtain ⟨σ2, e2⟩ : ∃ s, s = sI σ 27 L.length c := ⟨_, rfl⟩
  obtain ⟨σ4, e4⟩ : ∃ s, s = sI σ2 28 L.length (nI o) := ⟨_, rfl⟩
  obtain ⟨σ5, e5⟩ : ∃ s, s = sI σ4 15 17 (nI (L.length + 1)) := ⟨_, rfl⟩
  have g2 : σ2.1 15 = σ.1 15 := by rw [e2, rI_ne (by decide)]
  have g4 : σ4.1 15 = σ.1 15 := by rw [e4, rI_ne (by decide), g2]
  have c27 : σ5.1 27 = upd (σ.1 27) L.length c := by rw [e5, rI_ne (by decide), e4, rI_ne (by decide), e2, rI_at]
  have c28 : σ5.1 28 = upd (σ.1 28) L.length (nI o) := by rw [e5, rI_ne (by decide), e4, rI_at, e2, rI_ne (by decide)]
  have c15 : σ5.1 15 = upd (σ.1 15) 17 (nI (L.length + 1)) := by rw [e5, rI_at, g4]
  refine ⟨σ5, ?_, ⟨?_, fun j x hx => ?_⟩, ⟨?_, fun q hq => ?_⟩⟩
  · unfold f_Mo_put
    simp only [lt_]
    rw [h1, gd_t (inb_nI (by omega) (by decide)), nI_cl (by omega), ← e2, g2, h1, gd_t (inb_nI (by omega) (by decide)), nI_cl (by omega), ← e4, g4, h1, nI_1, ← e5]
  · rw [c15, pk_us]
    simp
  · rw [c27, c28]
    by_cases q : j = L.length
    · rw [q, ap_at] at hx
      obtain rfl := Option.some.inj hx
      rw [q, pk_us, pk_us]
      exact ⟨rfl, rfl⟩
    · rw [ap_ne q] at hx
      rw [pk_un q, pk_un q]
      exact h2 j x hx
  · rw [e5, e4, e2]; exact fr_tr (fr_tr (fr_rI _ _ (Or.inr (Or.inl rfl))) (fr_rI _ _ (Or.inr (Or.inr rfl)))) (fr_rI _ _ (Or.inl rfl))
  · rw [c15, pk_un hq]
