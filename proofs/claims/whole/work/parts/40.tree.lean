/-! TERMS AS ROWS: a term stands in front of its parts. tm K f i = some e: from place i to place e (not with it) stands one whole term of at most f levels. -/
def ar (k : Int32) : Nat := if k = 3 ∨ k = 4 then 2 else if k = 5 ∨ k = 6 then 1 else 0
def tm (K : Nat → Int32) : Nat → Nat → Option Nat
  | 0, _ => none
  | f + 1, i => if ar (K i) = 0 then some (i + 1) else if ar (K i) = 1 then tm K f (i + 1) else (tm K f (i + 1)).bind (fun e => tm K f e)
theorem ar_le (k : Int32) : ar k ≤ 2 := by
  unfold ar
  split
  · exact Nat.le_refl _
  · split <;> omega
theorem tm_leaf {K : Nat → Int32} {f i : Nat} (h : ar (K i) = 0) : tm K (f + 1) i = some (i + 1) := by
  rw [tm, if_pos h]
theorem tm_one {K : Nat → Int32} {f i : Nat} (h : ar (K i) = 1) : tm K (f + 1) i = tm K f (i + 1) := by
  rw [tm, if_neg (by omega), if_pos h]
theorem tm_two {K : Nat → Int32} {f i : Nat} (h : ar (K i) = 2) : tm K (f + 1) i = (tm K f (i + 1)).bind (fun e => tm K f e) := by
  rw [tm, if_neg (by omega), if_neg (by omega)]
/-- a term by its arity: none, one part, two parts -/
theorem tm_cases {K : Nat → Int32} {f i e : Nat} (h : tm K f i = some e) : ∃ f', f = f' + 1 ∧ ((ar (K i) = 0 ∧ e = i + 1) ∨ (ar (K i) = 1 ∧ tm K f' (i + 1) = some e) ∨ (ar (K i) = 2 ∧ ∃ d, tm K f' (i + 1) = some d ∧ tm K f' d = some e)) := by
  cases f with
  | zero => cases h
  | succ f =>
    refine ⟨f, rfl, ?_⟩
    have h2 := ar_le (K i)
    rcases (by omega : ar (K i) = 0 ∨ ar (K i) = 1 ∨ ar (K i) = 2) with h0 | h0 | h0
    · rw [tm_leaf h0] at h
      exact Or.inl ⟨h0, (Option.some.inj h).symm⟩
    · rw [tm_one h0] at h
      exact Or.inr (Or.inl ⟨h0, h⟩)
    · rw [tm_two h0] at h
      cases hd : tm K f (i + 1) with
      | none => rw [hd] at h; cases h
      | some d => rw [hd] at h; exact Or.inr (Or.inr ⟨h0, d, rfl, h⟩)
theorem tm_lt {K : Nat → Int32} : ∀ {f i e : Nat}, tm K f i = some e → i < e := by
  intro f
  induction f with
  | zero => intro i e h; cases h
  | succ f ih =>
    intro i e h
    obtain ⟨f', hf, c⟩ := tm_cases h
    obtain rfl : f' = f := by omega
    rcases c with ⟨_, rfl⟩ | ⟨_, h1⟩ | ⟨_, d, h1, h2⟩
    · omega
    · have := ih h1; omega
    · have := ih h1; have := ih h2; omega
theorem tm_mono {K : Nat → Int32} : ∀ {f i e : Nat}, tm K f i = some e → ∀ {g : Nat}, f ≤ g → tm K g i = some e := by
  intro f
  induction f with
  | zero => intro i e h; cases h
  | succ f ih =>
    intro i e h g hg
    obtain ⟨f', hf, c⟩ := tm_cases h
    obtain rfl : f' = f := by omega
    obtain ⟨g', rfl⟩ : ∃ g', g = g' + 1 := ⟨g - 1, by omega⟩
    rcases c with ⟨h0, rfl⟩ | ⟨h0, h1⟩ | ⟨h0, d, h1, h2⟩
    · exact tm_leaf h0
    · rw [tm_one h0]; exact ih h1 (by omega)
    · rw [tm_two h0, ih h1 (by omega : f' ≤ g')]; exact ih h2 (by omega)
theorem tm_fun {K : Nat → Int32} {f g i e e' : Nat} (h : tm K f i = some e) (h' : tm K g i = some e') : e = e' := by
  rcases Nat.le_total f g with q | q
  · exact Option.some.inj ((tm_mono h q).symm.trans h')
  · exact Option.some.inj (h.symm.trans (tm_mono h' q))
/-- the same row elsewhere -/
theorem tm_move {K K' : Nat → Int32} : ∀ {f i e : Nat}, tm K f i = some e → ∀ {i' : Nat}, (∀ j, i ≤ j → j < e → K' (i' + (j - i)) = K j) → tm K' f i' = some (i' + (e - i)) := by
  intro f
  induction f with
  | zero => intro i e h; cases h
  | succ f ih =>
    intro i e h i' hK
    have hlt := tm_lt h
    have h0 : K' i' = K i := by have := hK i (Nat.le_refl _) hlt; rwa [Nat.sub_self, Nat.add_zero] at this
    obtain ⟨f', hf, c⟩ := tm_cases h
    obtain rfl : f' = f := by omega
    rcases c with ⟨a0, rfl⟩ | ⟨a0, h1⟩ | ⟨a0, d, h1, h2⟩
    · rw [tm_leaf (by rw [h0]; exact a0)]
      congr 1; omega
    · have l1 := tm_lt h1
      rw [tm_one (by rw [h0]; exact a0), ih h1 (i' := i' + 1) (fun j hj hje => by have := hK j (by omega) hje; rw [← this]; congr 1; omega)]
      congr 1; omega
    · have l1 := tm_lt h1
      have l2 := tm_lt h2
      rw [tm_two (by rw [h0]; exact a0), ih h1 (i' := i' + 1) (fun j hj hje => by have := hK j (by omega) (by omega); rw [← this]; congr 1; omega)]
      have e2 := ih h2 (i' := i' + (d - i)) (fun j hj hje => by have := hK j (by omega) hje; rw [← this]; congr 1; omega)
      have ea : i' + 1 + (d - (i + 1)) = i' + (d - i) := by omega
      show tm K' f' (i' + 1 + (d - (i + 1))) = _
      rw [ea, e2]
      congr 1; omega
/-- every place of a term begins a term of its own, which ends in it -/
theorem tm_sub {K : Nat → Int32} : ∀ {f i e : Nat}, tm K f i = some e → ∀ {j : Nat}, i ≤ j → j < e → ∃ e', tm K f j = some e' ∧ e' ≤ e ∧ (i < j → ∃ f', f = f' + 1 ∧ tm K f' j = some e') := by
  intro f
  induction f with
  | zero => intro i e h; cases h
  | succ f ih =>
    intro i e h j hj hje
    rcases Nat.eq_or_lt_of_le hj with rfl | hij
    · exact ⟨e, h, Nat.le_refl _, fun q => absurd q (Nat.lt_irrefl _)⟩
    obtain ⟨f', hf, c⟩ := tm_cases h
    obtain rfl : f' = f := by omega
    rcases c with ⟨a0, rfl⟩ | ⟨a0, h1⟩ | ⟨a0, d, h1, h2⟩
    · omega
    · obtain ⟨e', h3, h4, _⟩ := ih h1 (j := j) (by omega) hje
      exact ⟨e', tm_mono h3 (Nat.le_succ _), h4, fun _ => ⟨_, rfl, h3⟩⟩
    · have l2 := tm_lt h2
      by_cases hd : j < d
      · obtain ⟨e', h3, h4, _⟩ := ih h1 (j := j) (by omega) hd
        exact ⟨e', tm_mono h3 (Nat.le_succ _), by omega, fun _ => ⟨_, rfl, h3⟩⟩
      · obtain ⟨e', h3, h4, _⟩ := ih h2 (j := j) (by omega) hje
        exact ⟨e', tm_mono h3 (Nat.le_succ _), h4, fun _ => ⟨_, rfl, h3⟩⟩
/-- where the term at a place ends; the places around it; how many they are -/
def eN (K : Nat → Int32) (i : Nat) : Nat := (tm K 64 i).getD (i + 1)
theorem eN_of {K : Nat → Int32} {f i e : Nat} (hf : f ≤ 64) (h : tm K f i = some e) : eN K i = e := by
  unfold eN
  rw [tm_mono h hf]
  rfl
/-- one whole term from 0 to n -/
def wf (K : Nat → Int32) (n : Nat) : Prop := tm K 64 0 = some n
theorem wf_at {K : Nat → Int32} {n i : Nat} (h : wf K n) (hi : i < n) : tm K 64 i = some (eN K i) ∧ i < eN K i ∧ eN K i ≤ n := by
  obtain ⟨e, h1, h2, _⟩ := tm_sub h (Nat.zero_le i) hi
  rw [eN_of (Nat.le_refl _) h1]
  exact ⟨h1, tm_lt h1, h2⟩
/-- terms lie in one another or apart -/
theorem wf_in {K : Nat → Int32} {n i j : Nat} (h : wf K n) (hi : i < n) (hij : i ≤ j) (hj : j < eN K i) : eN K j ≤ eN K i := by
  obtain ⟨h1, _, _⟩ := wf_at h hi
  obtain ⟨e, h2, h3, _⟩ := tm_sub h1 hij hj
  rw [eN_of (Nat.le_refl _) h2]
  exact h3
theorem wf_root {K : Nat → Int32} {n : Nat} (h : wf K n) : eN K 0 = n := eN_of (Nat.le_refl _) h
def dp (K : Nat → Int32) (j : Nat) : Nat := (List.range j).countP (fun k => decide (j < eN K k))
theorem cp_le {P Q : Nat → Bool} : ∀ (m : Nat), (∀ k, k < m → P k = true → Q k = true) → (List.range m).countP P ≤ (List.range m).countP Q := by
  intro m
  induction m with
  | zero => intro _; exact Nat.le_refl _
  | succ m ih =>
    intro h
    rw [List.range_succ, List.countP_append, List.countP_append]
    have h1 := ih (fun k hk => h k (by omega))
    have h2 := h m (by omega)
    simp only [List.countP_cons, List.countP_nil]
    cases hp : P m with
    | false => simp; omega
    | true => rw [h2 hp]; simp; omega
theorem cp_mono {P : Nat → Bool} {m m' : Nat} (h : m ≤ m') : (List.range m).countP P ≤ (List.range m').countP P := by
  obtain ⟨d, rfl⟩ : ∃ d, m' = m + d := ⟨m' - m, by omega⟩
  clear h
  induction d with
  | zero => exact Nat.le_refl _
  | succ d ih =>
    rw [← Nat.add_assoc, List.range_succ, List.countP_append]
    omega
theorem cp_zero {P : Nat → Bool} : ∀ (m a : Nat), (∀ k, a ≤ k → k < m → P k = false) → (List.range m).countP P ≤ (List.range a).countP P := by
  intro m
  induction m with
  | zero => intro a _; simp
  | succ m ih =>
    intro a h
    by_cases ha : m + 1 ≤ a
    · exact cp_mono ha
    · rw [List.range_succ, List.countP_append]
      have h1 := ih a (fun k hk hk2 => h k hk (by omega))
      simp only [List.countP_cons, List.countP_nil, h m (by omega) (by omega)]
      simpa using h1
/-- a part stands deeper -/
theorem dp_in {K : Nat → Int32} {n i j : Nat} (h : wf K n) (hi : i < n) (hij : i < j) (hj : j < eN K i) : dp K i < dp K j := by
  unfold dp
  have h1 : (List.range i).countP (fun k => decide (i < eN K k)) ≤ (List.range i).countP (fun k => decide (j < eN K k)) := by
    refine cp_le i (fun k hk hp => ?_)
    have hk1 : i < eN K k := of_decide_eq_true hp
    have := wf_in h (Nat.lt_trans hk hi) (Nat.le_of_lt hk) hk1
    exact decide_eq_true (by omega)
  have h2 : (List.range (i + 1)).countP (fun k => decide (j < eN K k)) ≤ (List.range j).countP (fun k => decide (j < eN K k)) := cp_mono hij
  rw [List.range_succ, List.countP_append] at h2
  simp only [List.countP_cons, List.countP_nil, decide_eq_true hj] at h2
  simp at h2
  omega
/-- behind a term it isn't deeper than the term -/
theorem dp_end {K : Nat → Int32} {n i : Nat} (h : wf K n) (hi : i < n) (he : eN K i < n) : dp K (eN K i) ≤ dp K i := by
  obtain ⟨_, hl, _⟩ := wf_at h hi
  unfold dp
  refine Nat.le_trans (cp_zero (eN K i) i (fun k hk hk2 => ?_)) (cp_le i (fun k hk hp => ?_))
  · have := wf_in h hi hk hk2
    exact decide_eq_false (by omega)
  · have := of_decide_eq_true hp
    exact decide_eq_true (by omega)
theorem cp_eq {P Q : Nat → Bool} (m : Nat) (h : ∀ k, k < m → P k = Q k) : (List.range m).countP P = (List.range m).countP Q :=
  Nat.le_antisymm (cp_le m (fun k hk hp => by rw [← h k hk]; exact hp)) (cp_le m (fun k hk hp => by rw [h k hk]; exact hp))
/-- the term around a place, if nothing between them holds the place -/
theorem dp_up {K : Nat → Int32} {n p j : Nat} (h : wf K n) (hp : p < n) (hpj : p < j) (hj : j < eN K p) (hk : ∀ k, p < k → k < j → eN K k ≤ j) : dp K j = dp K p + 1 := by
  unfold dp
  have h1 : (List.range j).countP (fun k => decide (j < eN K k)) = (List.range (p + 1)).countP (fun k => decide (j < eN K k)) :=
    Nat.le_antisymm (cp_zero j (p + 1) (fun k hk1 hk2 => decide_eq_false (by have := hk k (by omega) hk2; omega))) (cp_mono (by omega))
  rw [h1, List.range_succ, List.countP_append]
  have h2 : (List.range p).countP (fun k => decide (j < eN K k)) = (List.range p).countP (fun k => decide (p < eN K k)) := by
    refine cp_eq p (fun k hk1 => ?_)
    by_cases q : p < eN K k
    · have := wf_in h (Nat.lt_trans hk1 hp) (Nat.le_of_lt hk1) q
      rw [decide_eq_true q, decide_eq_true (by omega)]
    · rw [decide_eq_false q, decide_eq_false (by omega)]
  rw [h2]
  simp [hj]
/-- the search for it, downwards -/
def up1 (K : Nat → Int32) (j : Nat) : Nat → Option Nat
  | 0 => none
  | k + 1 => if j < eN K k then some k else up1 K j k
theorem up1_some {K : Nat → Int32} {j p : Nat} : ∀ {m : Nat}, up1 K j m = some p → p < m ∧ j < eN K p ∧ ∀ k, p < k → k < m → eN K k ≤ j := by
  intro m
  induction m with
  | zero => intro h; cases h
  | succ m ih =>
    intro h
    unfold up1 at h
    by_cases q : j < eN K m
    · rw [if_pos q] at h
      cases h
      exact ⟨by omega, q, fun k h1 h2 => by omega⟩
    · rw [if_neg q] at h
      obtain ⟨h1, h2, h3⟩ := ih h
      exact ⟨by omega, h2, fun k h4 h5 => by
        by_cases hk : k = m
        · subst hk; omega
        · exact h3 k h4 (by omega)⟩
theorem up1_none {K : Nat → Int32} {j : Nat} : ∀ {m : Nat}, up1 K j m = none → ∀ k, k < m → eN K k ≤ j := by
  intro m
  induction m with
  | zero => intro _ k hk; omega
  | succ m ih =>
    intro h k hk
    unfold up1 at h
    by_cases q : j < eN K m
    · rw [if_pos q] at h; cases h
    · rw [if_neg q] at h
      by_cases hkm : k = m
      · subst hkm; omega
      · exact ih h k (by omega)
theorem up_ex {K : Nat → Int32} {n j : Nat} (h : wf K n) (h0 : 0 < j) (hj : j < n) : ∃ p, up1 K j j = some p ∧ p < j ∧ j < eN K p ∧ (∀ k, p < k → k < j → eN K k ≤ j) ∧ dp K j = dp K p + 1 := by
  cases hu : up1 K j j with
  | none =>
    have := up1_none hu 0 h0
    rw [wf_root h] at this
    omega
  | some p =>
    obtain ⟨h1, h2, h3⟩ := up1_some hu
    exact ⟨p, rfl, h1, h2, h3, dp_up h (by omega) h1 h2 h3⟩
/-- parts: the first behind the term's own place, the second behind the first -/
theorem wf_ar1 {K : Nat → Int32} {n i : Nat} (h : wf K n) (hi : i < n) (ha : ar (K i) = 1) : eN K (i + 1) = eN K i ∧ i + 1 < eN K i ∧ dp K (i + 1) = dp K i + 1 := by
  obtain ⟨h1, _, h3⟩ := wf_at h hi
  rw [tm_one ha] at h1
  have l1 := tm_lt h1
  exact ⟨eN_of (by decide) h1, l1, dp_up h hi (by omega) l1 (fun k a b => by omega)⟩
theorem wf_ar2 {K : Nat → Int32} {n i : Nat} (h : wf K n) (hi : i < n) (ha : ar (K i) = 2) : i + 1 < eN K (i + 1) ∧ eN K (i + 1) < eN K i ∧ eN K (eN K (i + 1)) = eN K i ∧ dp K (i + 1) = dp K i + 1 ∧ dp K (eN K (i + 1)) = dp K i + 1 := by
  obtain ⟨h1, _, h3⟩ := wf_at h hi
  rw [tm_two ha] at h1
  cases hd : tm K 63 (i + 1) with
  | none => rw [hd] at h1; cases h1
  | some d =>
    rw [hd] at h1
    have h2 : tm K 63 d = some (eN K i) := h1
    have l1 := tm_lt hd
    have l2 := tm_lt h2
    have e1 : eN K (i + 1) = d := eN_of (by decide) hd
    rw [e1]
    refine ⟨l1, l2, eN_of (by decide) h2, dp_up h hi (by omega) (by omega) (fun k a b => by omega), dp_up h hi (by omega) l2 (fun k a b => ?_)⟩
    have := wf_in h (i := i + 1) (by omega) (j := k) (by omega) (by omega)
    omega
theorem wf_ar0 {K : Nat → Int32} {n i : Nat} (h : wf K n) (hi : i < n) (ha : ar (K i) = 0) : eN K i = i + 1 := by
  obtain ⟨h1, _, _⟩ := wf_at h hi
  rw [tm_leaf ha] at h1
  exact (Option.some.inj h1).symm
/-- levels and depth: at most f levels from a place on, if nothing there is f deeper -/
theorem tm_dp {K : Nat → Int32} {n : Nat} (h : wf K n) : ∀ (f i : Nat), i < n → (∀ j, i ≤ j → j < eN K i → dp K j < dp K i + f) → tm K f i = some (eN K i) := by
  intro f
  induction f with
  | zero =>
    intro i hi hd
    have := hd i (Nat.le_refl _) (wf_at h hi).2.1
    omega
  | succ f ih =>
    intro i hi hd
    obtain ⟨_, hl, hn⟩ := wf_at h hi
    have h2 := ar_le (K i)
    rcases (by omega : ar (K i) = 0 ∨ ar (K i) = 1 ∨ ar (K i) = 2) with a | a | a
    · rw [tm_leaf a, wf_ar0 h hi a]
    · obtain ⟨e1, e2, e3⟩ := wf_ar1 h hi a
      rw [tm_one a, ih (i + 1) (by omega) (fun j q1 q2 => by have := hd j (by omega) (by omega); omega), e1]
    · obtain ⟨e1, e2, e3, e4, e5⟩ := wf_ar2 h hi a
      rw [tm_two a, ih (i + 1) (by omega) (fun j q1 q2 => by have := hd j (by omega) (by omega); omega)]
      show tm K f (eN K (i + 1)) = _
      rw [ih (eN K (i + 1)) (by omega) (fun j q1 q2 => by have := hd j (by omega) (by omega); omega), e3]
theorem dp_tm {K : Nat → Int32} {n : Nat} (h : wf K n) : ∀ (f i e : Nat), i < n → tm K f i = some e → f ≤ 64 → ∀ j, i ≤ j → j < e → dp K j < dp K i + f := by
  intro f
  induction f with
  | zero => intro i e _ ht; cases ht
  | succ f ih =>
    intro i e hi ht hf j hj hje
    rcases Nat.eq_or_lt_of_le hj with rfl | hij
    · omega
    obtain ⟨f', hff, c⟩ := tm_cases ht
    obtain rfl : f' = f := by omega
    have hee := eN_of hf ht
    have hn := (wf_at h hi).2.2
    rcases c with ⟨a, rfl⟩ | ⟨a, h1⟩ | ⟨a, d, h1, h2⟩
    · omega
    · obtain ⟨e1, e2, e3⟩ := wf_ar1 h hi a
      have := ih (i + 1) e (by omega) h1 (by omega) j (by omega) hje
      omega
    · obtain ⟨e1, e2, e3, e4, e5⟩ := wf_ar2 h hi a
      have ed : eN K (i + 1) = d := eN_of (by omega) h1
      rw [ed] at e5 e1 e2
      by_cases q : j < d
      · have := ih (i + 1) d (by omega) h1 (by omega) j (by omega) q
        omega
      · have := ih d e (by omega) h2 (by omega) j (by omega) hje
        omega
