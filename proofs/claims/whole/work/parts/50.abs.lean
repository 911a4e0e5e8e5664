/-! rows that hold the same program; rows that are in order; the class's edits on programs -/
def rr (n : Nat) (k f : Nat → Int32) (t : Nat → Int64) (K F : Nat → Int32) (T : Nat → Int64) : Prop := ∀ j, j < n → k j = K j ∧ (usF (K j) → f j = F j) ∧ (usT (K j) → t j = T j)
theorem rowC_iff {σ : Mem} {i n : Nat} {K F : Nat → Int32} {T : Nat → Int64} : rowC σ i n K F T ↔ rr n (σ.1 (cPk i)) (σ.1 (cPf i)) (σ.2 (cPt i)) K F T ∧ ∀ j, j < n → σ.1 (cPl i) j = nI (dp K j) :=
  ⟨fun h => ⟨fun j hj => ⟨(h j hj).1, (h j hj).2.2.1, (h j hj).2.2.2⟩, fun j hj => (h j hj).2.1⟩, fun h j hj => ⟨(h.1 j hj).1, h.2 j hj, (h.1 j hj).2.1, (h.1 j hj).2.2⟩⟩
theorem rr_of {n : Nat} {k f k' f' : Nat → Int32} {t t' : Nat → Int64} {K F : Nat → Int32} {T : Nat → Int64} (h : rr n k f t K F T) (hk : ∀ j, j < n → k' j = k j) (hf : ∀ j, j < n → usF (K j) → f' j = f j) (ht : ∀ j, j < n → usT (K j) → t' j = t j) : rr n k' f' t' K F T := fun j hj => ⟨(hk j hj).trans (h j hj).1, fun u => (hf j hj u).trans ((h j hj).2.1 u), fun u => (ht j hj u).trans ((h j hj).2.2 u)⟩
theorem rr_ins {n : Nat} {k f : Nat → Int32} {t : Nat → Int64} {K F : Nat → Int32} {T : Nat → Int64} (h : rr n k f t K F T) {a : Nat} (ha : a ≤ n) (x y : Int32) (z : Int64) : rr (n + 1) (insF k a x) (insF f a y) (insF t a z) (insF K a x) (insF F a y) (insF T a z) := by
  intro j hj
  rcases Nat.lt_trichotomy j a with q | q | q
  · rw [ins_a q, ins_a q, ins_a q, ins_a q, ins_a q, ins_a q]
    exact h j (by omega)
  · subst q
    rw [ins_b, ins_b, ins_b, ins_b, ins_b, ins_b]
    exact ⟨rfl, fun _ => rfl, fun _ => rfl⟩
  · rw [ins_c q, ins_c q, ins_c q, ins_c q, ins_c q, ins_c q]
    exact h (j - 1) (by omega)
theorem rr_spl {n s e m : Nat} {k f xk xf XK XF : Nat → Int32} {t xt XT : Nat → Int64} {K F : Nat → Int32} {T : Nat → Int64} (h : rr n k f t K F T) (hx : rr m xk xf xt XK XF XT) (hse : s ≤ e) (hen : e ≤ n) : rr (n + m - (e - s)) (spl k xk s e m) (spl f xf s e m) (spl t xt s e m) (spl K XK s e m) (spl F XF s e m) (spl T XT s e m) := by
  intro j hj
  unfold spl
  by_cases q : j < s
  · rw [if_pos q, if_pos q, if_pos q, if_pos q, if_pos q, if_pos q]
    exact h j (by omega)
  · rw [if_neg q, if_neg q, if_neg q, if_neg q, if_neg q, if_neg q]
    by_cases z : j < s + m
    · rw [if_pos z, if_pos z, if_pos z, if_pos z, if_pos z, if_pos z]
      exact hx (j - s) (by omega)
    · rw [if_neg z, if_neg z, if_neg z, if_neg z, if_neg z, if_neg z]
      exact h _ (by omega)
/-- rows of the same arities -/
theorem tm_ar {K K' : Nat → Int32} (h : ∀ j, ar (K' j) = ar (K j)) : ∀ (f i : Nat), tm K' f i = tm K f i := by
  intro f
  induction f with
  | zero => intro i; rfl
  | succ f ih =>
    intro i
    unfold tm
    rw [h i, ih (i + 1)]
    congr 1
    congr 1
    congr 1
    funext e
    exact ih e
theorem eN_ar {K K' : Nat → Int32} (h : ∀ j, ar (K' j) = ar (K j)) (i : Nat) : eN K' i = eN K i := by
  unfold eN
  rw [tm_ar h]
theorem dp_ar {K K' : Nat → Int32} (h : ∀ j, ar (K' j) = ar (K j)) (i : Nat) : dp K' i = dp K i := by
  unfold dp
  refine cp_eq i (fun k _ => ?_)
  rw [eN_ar h]
/-- types as rows of digits -/
def dgt (x : Int64) (k : Nat) : Nat := x.toBitVec.toNat / 4 ^ k % 4
def tyE (d : Nat → Nat) : Nat → Nat → Option Nat
  | 0, _ => none
  | f + 1, i => if d i = 0 then none else if d i = 3 then (tyE d f (i + 1)).bind (fun e => tyE d f e) else some (i + 1)
def okT (x : Int64) : Prop := ∃ m, m ≤ 27 ∧ tyE (dgt x) 28 0 = some m ∧ x.toBitVec.toNat < 4 ^ m
def okK (n : Nat) (K F : Nat → Int32) (T : Nat → Int64) : Prop := ∀ j, j < n → isK (K j) ∧ (K j = 1 → (-999 : Int32) ≤ F j ∧ F j ≤ 999) ∧ (K j = 2 ∨ K j = 5 → ∃ m, m ≤ 9 ∧ F j = nI m) ∧ (usT (K j) → okT (T j))
/-- a program in order: one term of at most 12 levels and 40 places, the cursor on one of them -/
def okP (A : Pg) : Prop := tm A.2.2.1 12 0 = some A.1 ∧ A.1 ≤ 40 ∧ A.2.1 < A.1 ∧ okK A.1 A.2.2.1 A.2.2.2.1 A.2.2.2.2
theorem okP_wf {A : Pg} (h : okP A) : wf A.2.2.1 A.1 := tm_mono h.1 (by decide)
theorem atC_raw {σ : Mem} {i : Nat} {A : Pg} (h : atC σ i A) : raw σ i A.1 A.2.1 (σ.1 (cPk i)) (σ.1 (cPf i)) (σ.2 (cPt i)) (σ.1 (cPl i)) := ⟨h.1, h.2.1, rfl, rfl, rfl, rfl⟩
theorem atC_of {σ : Mem} {i n c : Nat} {k f l : Nat → Int32} {t : Nat → Int64} {K F : Nat → Int32} {T : Nat → Int64} (h : raw σ i n c k f t l) (hr : rr n k f t K F T) (hl : ∀ j, j < n → l j = nI (dp K j)) : atC σ i (n, c, K, F, T) := by
  obtain ⟨h1, h2, h3, h4, h5, h6⟩ := h
  refine ⟨h1, h2, rowC_iff.mpr ⟨?_, ?_⟩⟩
  · rw [h3, h4, h5]
    exact hr
  · rw [h6]
    exact hl
section EDITS
variable {σ : Mem} {i n c : Nat} {K F : Nat → Int32} {T : Nat → Int64}
theorem lv_dp (h : atC σ i (n, c, K, F, T)) (hn : n ≤ 40) : ∀ j, j < n → σ.1 (cPl i) j = nI (dp K j) ∧ dp K j < 99 := fun j hj => ⟨(h.2.2 j hj).2.1, by
  unfold dp
  have h1 := List.countP_le_length (p := fun k => decide (j < eN K k)) (l := List.range j)
  rw [List.length_range] at h1
  omega⟩
theorem E_fill (h : atC σ i (n, c, K, F, T)) (hn : n ≤ 40) (hc : c < n) (hK : K c = 0) {x : Int32} (y : Int32) (hx : ar x = 0) (hxT : ¬ usT x) : ∃ σ', f_Pr_fill i x y σ = some ((), σ') ∧ fr (isP i) σ σ' ∧ atC σ' i (n, c, upd K c x, upd F c y, T) := by
  obtain ⟨σ1, a1, a2, a3⟩ := s_Pr_write (atC_raw h) (a := c) (by omega) x y 0
  refine ⟨σ1, ?_, a2, atC_of a3 ?_ (fun j hj => ?_)⟩
  · unfold f_Pr_fill
    rw [h.2.1, a1]
    rfl
  · intro j hj
    have hr := (rowC_iff.mp h.2.2).1 j hj
    by_cases q : j = c
    · subst q
      rw [pk_us, pk_us, pk_us, pk_us]
      exact ⟨rfl, fun _ => rfl, fun u => absurd u hxT⟩
    · rw [pk_un q, pk_un q, pk_un q, pk_un q, pk_uLn q]
      exact hr
  · have e1 : dp (upd K c x) j = dp K j := by
      refine dp_ar (fun q => ?_) j
      unfold upd
      by_cases z : q = c
      · rw [if_pos z, z, hK, hx]
        decide
      · rw [if_neg z]
    rw [e1]
    exact (h.2.2 j hj).2.1
theorem E_wrap (h : atC σ i (n, c, K, F, T)) (h0 : tm K 12 0 = some n) (hn : n + 1 ≤ 40) (hc : c < n) {x : Int32} (y : Int32) (z : Int64) (hx : ar x = 1) : ∃ σ', f_Pr_wrap i x y z σ = some ((), σ') ∧ fr (isP i) σ σ' ∧ atC σ' i (n + 1, c + 1, insF K c x, insF F c y, insF T c z) := by
  have hw : wf K n := tm_mono h0 (by decide)
  obtain ⟨_, e1, e2⟩ := wf_at hw hc
  have hlv := lv_dp h (by omega)
  obtain ⟨σ', k', f', t', l', a1, a2, a3, a4, a5, a6, a7, a8⟩ := s_Pr_wrap (atC_raw h) (lv := dp K) hn (fun j hj => ⟨(hlv j hj).1, by have := (hlv j hj).2; omega⟩) e1 e2 (fun j h1 h2 => dp_in hw hc h1 h2) (fun q => dp_end hw hc q) x y z
  obtain ⟨_, b2, b3, b4, b5⟩ := ins1 (kd := x) hw h0 (by decide) hc hx
  refine ⟨σ', a1, a2, atC_of a3 ?_ (fun j hj => ?_)⟩
  · exact rr_of (rr_ins (rowC_iff.mp h.2.2).1 (by show c ≤ n; omega) x y z) (fun j hj => (a4 j hj).1) (fun j hj _ => (a4 j hj).2.1) (fun j hj _ => (a4 j hj).2.2)
  · rcases Nat.lt_trichotomy j c with q | q | q
    · rw [a5 j q, b2 j q]
      exact (hlv j (by show j < n; omega)).1
    · subst q
      rw [a6, b3]
      exact (hlv j hc).1
    · obtain ⟨j', rfl⟩ : ∃ j', j = j' + 1 := ⟨j - 1, by omega⟩
      by_cases z : j' < eN K c
      · rw [a7 j' (by show c ≤ j'; omega) z, b4 j' (by omega) z]
      · rw [a8 j' (by omega) (by show j' < n; omega), b5 j' (by omega) (by omega)]
        exact (hlv j' (by show j' < n; omega)).1
theorem E_join (h : atC σ i (n, c, K, F, T)) (h0 : tm K 12 0 = some n) (hn : n + 2 ≤ 40) (hc : c < n) {x : Int32} (v : Int32) (hx : ar x = 2) {pl : Nat} (hpl : pl = if v = 0 then eN K c + 1 else c + 1) : ∃ σ', f_Pr_join i x v σ = some ((), σ') ∧ fr (isP i) σ σ' ∧ atC σ' i (n + 2, pl, insF (insF K c x) pl 0, insF (insF F c 0) pl 0, insF (insF T c 0) pl 0) := by
  have hw : wf K n := tm_mono h0 (by decide)
  obtain ⟨_, e1, e2⟩ := wf_at hw hc
  have hlv := lv_dp h (by omega)
  have hp1 : pl ≤ n + 1 := by rw [hpl]; split <;> omega
  obtain ⟨σ', k', f', t', l', a1, a2, a3, a4⟩ := s_Pr_join (atC_raw h) (lv := dp K) hn hlv e1 e2 (fun j h1 h2 => dp_in hw hc h1 h2) (fun q => dp_end hw hc q) x v pl hpl
  refine ⟨σ', a1, a2, atC_of a3 ?_ (fun j hj => ?_)⟩
  · exact rr_of (rr_ins (rr_ins (rowC_iff.mp h.2.2).1 (by show c ≤ n; omega) x 0 0) hp1 0 0 0) (fun j hj => (a4 j hj).1) (fun j hj _ => (a4 j hj).2.1) (fun j hj _ => (a4 j hj).2.2.1)
  · rw [(a4 j hj).2.2.2]
    congr 1
    unfold insF wl
    by_cases hv : v = 0
    · rw [if_pos hv] at hpl
      obtain ⟨_, b2, b3, b4, b5, b6⟩ := ins2a (kd := x) hw h0 (by decide) hc hx
      rw [← hpl] at b2 b3 b4 b5 b6
      have hdp := fun q (hq : q < n + 2) => (by
        rcases Nat.lt_trichotomy q c with z | z | z
        · exact (b2 q z).trans (by rw [if_pos (by omega : q < pl), if_pos (by omega : q ≤ c)])
        · subst z
          exact b3.trans (by rw [if_pos (by omega : q < pl), if_pos (Nat.le_refl q)])
        · rcases Nat.lt_trichotomy q pl with y | y | y
          · have := b4 (q - 1) (by omega) (by omega)
            rw [Nat.sub_add_cancel (by omega)] at this
            exact this.trans (by rw [if_pos y, if_neg (by omega : ¬ q ≤ c), if_pos (by omega : q ≤ eN K c)])
          · subst y
            exact b5.trans (by rw [if_neg (by omega : ¬ q < q), if_pos rfl])
          · have := b6 (q - 2) (by omega) (by omega)
            rw [Nat.sub_add_cancel (by omega)] at this
            exact this.trans (by rw [if_neg (by omega : ¬ q < pl), if_neg (by omega : ¬ q = pl), if_neg (by omega : ¬ q - 1 ≤ c), if_neg (by omega : ¬ q - 1 ≤ eN K c)]; congr 1) : dp (insF (insF K c x) pl 0) q = if q < pl then if q ≤ c then dp K q else if q ≤ eN K c then dp K (q - 1) + 1 else dp K (q - 1) else if q = pl then dp K c + 1 else if q - 1 ≤ c then dp K (q - 1) else if q - 1 ≤ eN K c then dp K (q - 1 - 1) + 1 else dp K (q - 1 - 1))
      exact (hdp j hj).symm
    · rw [if_neg hv] at hpl
      subst hpl
      obtain ⟨_, b2, b3, b4, b5, b6⟩ := ins2b (kd := x) hw h0 (by decide) hc hx
      have hdp := fun q (hq : q < n + 2) => (by
        rcases Nat.lt_trichotomy q c with z | z | z
        · exact (b2 q z).trans (by rw [if_pos (by omega : q < c + 1), if_pos (by omega : q ≤ c)])
        · subst z
          exact b3.trans (by rw [if_pos (by omega : q < q + 1), if_pos (Nat.le_refl q)])
        · by_cases y : q = c + 1
          · subst y
            exact b4.trans (by rw [if_neg (by omega : ¬ c + 1 < c + 1), if_pos rfl])
          · by_cases w : q - 2 < eN K c
            · have := b5 (q - 2) (by omega) w
              rw [Nat.sub_add_cancel (by omega)] at this
              exact this.trans (by rw [if_neg (by omega : ¬ q < c + 1), if_neg y, if_neg (by omega : ¬ q - 1 ≤ c), if_pos (by omega : q - 1 ≤ eN K c)]; congr 1)
            · have := b6 (q - 2) (by omega) (by omega)
              rw [Nat.sub_add_cancel (by omega)] at this
              exact this.trans (by rw [if_neg (by omega : ¬ q < c + 1), if_neg y, if_neg (by omega : ¬ q - 1 ≤ c), if_neg (by omega : ¬ q - 1 ≤ eN K c)]; congr 1) : dp (insF (insF K c x) (c + 1) 0) q = if q < c + 1 then if q ≤ c then dp K q else if q ≤ eN K c then dp K (q - 1) + 1 else dp K (q - 1) else if q = c + 1 then dp K c + 1 else if q - 1 ≤ c then dp K (q - 1) else if q - 1 ≤ eN K c then dp K (q - 1 - 1) + 1 else dp K (q - 1 - 1))
      exact (hdp j hj).symm
theorem E_empty (h : atC σ i (n, c, K, F, T)) (h0 : tm K 12 0 = some n) (hn : n ≤ 40) (hc : c < n) : ∃ σ', f_Pr_empty i σ = some ((), σ') ∧ fr (isP i) σ σ' ∧ atC σ' i (n + 1 - (eN K c - c), c, spl K (fun _ => 0) c (eN K c) 1, spl F (fun _ => 0) c (eN K c) 1, spl T (fun _ => 0) c (eN K c) 1) := by
  have hw : wf K n := tm_mono h0 (by decide)
  obtain ⟨_, e1, e2⟩ := wf_at hw hc
  have hlv := lv_dp h hn
  obtain ⟨σ', k', f', t', l', a1, a2, a3, a4⟩ := s_Pr_empty (atC_raw h) (lv := dp K) hn (fun j hj => ⟨(hlv j hj).1, by have := (hlv j hj).2; omega⟩) e1 e2 (fun j h1 h2 => dp_in hw hc h1 h2) (fun q => dp_end hw hc q)
  obtain ⟨_, b2, b3, b4⟩ := emp hw h0 (by decide) hc
  refine ⟨σ', a1, a2, atC_of a3 ?_ (fun j hj => ?_)⟩
  · have hx : rr 1 (fun _ => (0 : Int32)) (fun _ => 0) (fun _ => 0) (fun _ => 0) (fun _ => 0) (fun _ => 0) := fun j _ => ⟨rfl, fun _ => rfl, fun _ => rfl⟩
    exact rr_of (rr_spl (rowC_iff.mp h.2.2).1 hx (by omega) e2) (fun j hj => (a4 j hj).1) (fun j hj _ => (a4 j hj).2.1) (fun j hj _ => (a4 j hj).2.2.1)
  · rw [(a4 j hj).2.2.2]
    rcases Nat.lt_trichotomy j c with q | q | q
    · rw [spl_a q, b2 j q]
      exact (hlv j (by show j < n; omega)).1
    · subst q
      have := spl_b (K := σ.1 (cPl i)) (X := fun _ => σ.1 (cPl i) j) (s := j) (e := eN K j) (m := 1) (j := 0) (by omega)
      rw [Nat.add_zero] at this
      rw [this, b3]
      exact (hlv j hc).1
    · have b5 := b4 (j + eN K c - (c + 1)) (by omega) (by omega)
      have ej : j + eN K c - (c + 1) + (c + 1) - eN K c = j := by omega
      rw [ej] at b5
      have b6 := spl_c (K := σ.1 (cPl i)) (X := fun _ => σ.1 (cPl i) c) (s := c) (e := eN K c) (m := 1) (o := j + eN K c - (c + 1)) (by omega) (by omega)
      rw [ej] at b6
      rw [b5, b6]
      exact (hlv _ (by show _ < n; omega)).1
theorem E_raise (h : atC σ i (n, c, K, F, T)) (h0 : tm K 12 0 = some n) (hn : n ≤ 40) (hc0 : 0 < c) (hc : c < n) {p : Nat} (hp : up1 K c c = some p) : ∃ σ', f_Pr_raise i σ = some ((), σ') ∧ fr (isP i) σ σ' ∧ atC σ' i (n + (eN K c - c) - (eN K p - p), p, spl K (fun j => K (c + j)) p (eN K p) (eN K c - c), spl F (fun j => F (c + j)) p (eN K p) (eN K c - c), spl T (fun j => T (c + j)) p (eN K p) (eN K c - c)) := by
  have hw : wf K n := tm_mono h0 (by decide)
  obtain ⟨p', x1, p1, p2, p3, p4⟩ := up_ex hw hc0 hc
  obtain rfl : p' = p := Option.some.inj (x1.symm.trans hp)
  obtain ⟨_, q1, q2⟩ := wf_at hw hc
  obtain ⟨_, q3, q4⟩ := wf_at hw (i := p') (by omega)
  have q5 := wf_in hw (i := p') (j := c) (by omega) (by omega) p2
  have hlv := lv_dp h hn
  obtain ⟨σ', k', f', t', l', a1, a2, a3, a4⟩ := s_Pr_raise (atC_raw h) hn h.2.2 hw hc0 hc hp
  obtain ⟨_, b2, b3, b4⟩ := lif hw h0 (by decide) hc (p := p') (by omega)
  refine ⟨σ', a1, a2, atC_of a3 ?_ (fun j hj => ?_)⟩
  · have hx : rr (eN K c - c) (fun q => σ.1 (cPk i) (c + q)) (fun q => σ.1 (cPf i) (c + q)) (fun q => σ.2 (cPt i) (c + q)) (fun q => K (c + q)) (fun q => F (c + q)) (fun q => T (c + q)) := fun j hj => (rowC_iff.mp h.2.2).1 (c + j) (by show c + j < n; omega)
    exact rr_of (rr_spl (rowC_iff.mp h.2.2).1 hx (by omega) q4) (fun j hj => (a4 j hj).1) (fun j hj _ => (a4 j hj).2.1) (fun j hj _ => (a4 j hj).2.2.1)
  · rw [(a4 j hj).2.2.2]
    by_cases q : j < p'
    · rw [spl_a q, b2 j q]
      exact (hlv j (by show j < n; omega)).1
    · by_cases z : j < p' + (eN K c - c)
      · have b5 := b3 (j - p') (by omega)
        have ej : p' + (j - p') = j := by omega
        rw [ej] at b5
        have b6 := spl_b (K := σ.1 (cPl i)) (X := fun q => σ.1 (cPl i) (c + q) + (-1)) (s := p') (e := eN K p') (m := eN K c - c) (j := j - p') (by omega)
        rw [ej] at b6
        rw [b6, (hlv (c + (j - p')) (by show _ < n; omega)).1, sb_m1 (by have := seg_dp hw hc (j := j - p') (by omega); omega)]
        congr 1
        omega
      · have b5 := b4 (j + eN K p' - (p' + (eN K c - c))) (by omega) (by omega)
        have ej : j + eN K p' - (p' + (eN K c - c)) + (p' + (eN K c - c)) - eN K p' = j := by omega
        rw [ej] at b5
        have b6 := spl_c (K := σ.1 (cPl i)) (X := fun q => σ.1 (cPl i) (c + q) + (-1)) (s := p') (e := eN K p') (m := eN K c - c) (o := j + eN K p' - (p' + (eN K c - c))) (by omega) (by omega)
        rw [ej] at b6
        rw [b5, b6]
        exact (hlv _ (by show _ < n; omega)).1
end EDITS
