/-! the text of a term: what stands before, between and behind its parts -/
theorem P_type {u m : Nat} (h : tyV u m) (o : Nat) {σ : Mem} {L : Tp} (hT : TM σ L) (hL : L.length + (tyTx u 28 0).length ≤ 1790) : ∃ σ', f_Mo_putType (lN u) (nI o) σ = some ((), σ') ∧ TM σ' (L ++ own o (tyTx u 28 0)) ∧ frQ σ σ' := by
  have hu : u < 2 ^ 64 := Nat.lt_trans (tyV_lt h) (by decide)
  have hm := h.2.2
  have hlt := tyE_lt h.1
  obtain ⟨σ1, a1, a2, a3, a4⟩ := pT (o := o) hu hm 28 h.1 (by omega) (Nat.le_refl _) 0 L σ hT (by omega) hL
  refine ⟨σ1, ?_, a1, a2⟩
  have root : LKt u m o 1 0 (m - 1) σ1 ((), σ1) := by
    refine ⟨1, (nI 0, nI m, σ1), by omega, fun v7 => lp_exit ?_, lp_exit ?_⟩
    · show f_Mo_putType_L89 (lN u) (nI o) (nI m) (nI (m - 1)) v7 (nI 0) (bS 0) σ1 = _
      unfold f_Mo_putType_L89 f_Mo_putType_J156
      rw [if_pos (show bS 0 = 0 from rfl), lt_q, nI_1, show m - 1 + 1 = m by omega]
      rfl
    · show f_Mo_putType_L13 (lN u) (nI o) (nI m) (nI 0) (nI m) σ1 = _
      unfold f_Mo_putType_L13
      rw [if_pos ((nIle (by omega) (by omega)).mpr (Nat.le_refl _))]
      rfl
  have := a4 1 _ root
  unfold f_Mo_putType
  have z0 : (0 : Int32) = nI 0 := rfl
  have b1 := nx_of h.1 (by omega)
  rw [lt_q, z0, s_Mo_behind hu (by decide), b1.1, bn_q, lt_q]
  exact lp_FU this (by omega)
def opT (K F : Nat → Int32) (T : Nat → Int64) (i : Nat) : List Int32 := if K i = 0 then [63] else if K i = 1 then numT (F i) else if K i = 2 then [97 + F i] else if K i = 3 then [40] else if K i = 5 then [91] ++ [97 + F i] ++ [58] ++ tyTx (vN (T i)) 28 0 else if K i = 6 then [123] else []
def mdT (K : Nat → Int32) (i : Nat) : Int32 := if K i = 3 then 43 else 40
def clT (K F : Nat → Int32) (T : Nat → Int64) (i : Nat) : List Int32 := if K i = 6 then [58] ++ tyTx (vN (T i)) 28 0 ++ [125] else if K i = 5 then [93] else [41]
def tx (K F : Nat → Int32) (T : Nat → Int64) : Nat → Nat → Tp
  | 0, _ => []
  | f + 1, i => if ar (K i) = 0 then own i (opT K F T i) else if ar (K i) = 1 then own i (opT K F T i) ++ tx K F T f (i + 1) ++ own i (clT K F T i) else own i (opT K F T i) ++ tx K F T f (i + 1) ++ [(mdT K i, i)] ++ tx K F T f (eN K (i + 1)) ++ own i (clT K F T i)
def bgn (K F : Nat → Int32) (T : Nat → Int64) : Nat → Nat → Nat → Nat → Nat
  | 0, _, l, _ => l
  | f + 1, i, l, j => if j = i then l else if ar (K i) = 1 ∨ j < eN K (i + 1) then bgn K F T f (i + 1) (l + (opT K F T i).length) j else bgn K F T f (eN K (i + 1)) (l + (opT K F T i).length + (tx K F T f (i + 1)).length + 1) j
def enn (K F : Nat → Int32) (T : Nat → Int64) : Nat → Nat → Nat → Nat → Nat
  | 0, _, l, _ => l
  | f + 1, i, l, j => if j = i then l + (tx K F T (f + 1) i).length else if ar (K i) = 1 ∨ j < eN K (i + 1) then enn K F T f (i + 1) (l + (opT K F T i).length) j else enn K F T f (eN K (i + 1)) (l + (opT K F T i).length + (tx K F T f (i + 1)).length + 1) j
theorem tyTx_40 {x : Int64} (h : okT x) : (tyTx (vN x) 28 0).length ≤ 40 := by
  obtain ⟨m, hm⟩ := okT_x h
  have := tyTx_len 28 hm.1 (by have := hm.2.2; omega)
  have := hm.2.2
  omega
section TEXT
variable {n : Nat} {K F : Nat → Int32} {T : Nat → Int64}
theorem op_0 {i : Nat} (h : K i = 0) : opT K F T i = [63] := by unfold opT; rw [h]; rfl
theorem op_1 {i : Nat} (h : K i = 1) : opT K F T i = numT (F i) := by unfold opT; rw [h]; rfl
theorem op_2 {i : Nat} (h : K i = 2) : opT K F T i = [97 + F i] := by unfold opT; rw [h]; rfl
theorem op_3 {i : Nat} (h : K i = 3) : opT K F T i = [40] := by unfold opT; rw [h]; rfl
theorem op_4 {i : Nat} (h : K i = 4) : opT K F T i = [] := by unfold opT; rw [h]; rfl
theorem op_5 {i : Nat} (h : K i = 5) : opT K F T i = [91] ++ [97 + F i] ++ [58] ++ tyTx (vN (T i)) 28 0 := by unfold opT; rw [h]; rfl
theorem op_6 {i : Nat} (h : K i = 6) : opT K F T i = [123] := by unfold opT; rw [h]; rfl
theorem cl_3 {i : Nat} (h : K i = 3) : clT K F T i = [41] := by unfold clT; rw [h]; rfl
theorem cl_4 {i : Nat} (h : K i = 4) : clT K F T i = [41] := by unfold clT; rw [h]; rfl
theorem cl_5 {i : Nat} (h : K i = 5) : clT K F T i = [93] := by unfold clT; rw [h]; rfl
theorem cl_6 {i : Nat} (h : K i = 6) : clT K F T i = [58] ++ tyTx (vN (T i)) 28 0 ++ [125] := by unfold clT; rw [h]; rfl
theorem op_len (hk : okK n K F T) {i : Nat} (hi : i < n) : (opT K F T i).length ≤ 43 ∧ (ar (K i) = 0 → (opT K F T i).length ≤ 4) ∧ (ar (K i) = 2 → (opT K F T i).length ≤ 1) ∧ (ar (K i) = 1 → (opT K F T i).length + (clT K F T i).length ≤ 44) ∧ (ar (K i) = 2 → (clT K F T i).length = 1) := by
  obtain ⟨h1, h2, h3, h4⟩ := hk i hi
  have t4 : usT (K i) → (tyTx (vN (T i)) 28 0).length ≤ 40 := fun q => tyTx_40 (h4 q)
  rcases h1 with q | q | q | q | q | q | q
  · rw [op_0 q, q]; exact ⟨by decide, fun _ => by decide, fun z => absurd z (by decide), fun z => absurd z (by decide), fun z => absurd z (by decide)⟩
  · have := numT_len (F i)
    rw [op_1 q, q]
    exact ⟨by omega, fun _ => by omega, fun z => absurd z (by decide), fun z => absurd z (by decide), fun z => absurd z (by decide)⟩
  · rw [op_2 q, q]
    exact ⟨by show 1 ≤ 43; decide, fun _ => by show 1 ≤ 4; decide, fun z => absurd z (by decide), fun z => absurd z (by decide), fun z => absurd z (by decide)⟩
  · rw [op_3 q, cl_3 q, q]; exact ⟨by decide, fun z => absurd z (by decide), fun _ => by decide, fun z => absurd z (by decide), fun _ => rfl⟩
  · rw [op_4 q, cl_4 q, q]; exact ⟨by decide, fun z => absurd z (by decide), fun _ => by decide, fun z => absurd z (by decide), fun _ => rfl⟩
  · have := t4 (Or.inl q)
    rw [op_5 q, cl_5 q, q, List.length_append]
    refine ⟨?_, fun z => absurd z (by decide), fun z => absurd z (by decide), fun _ => ?_, fun z => absurd z (by decide)⟩
    · show 3 + _ ≤ 43
      omega
    · show 3 + _ + 1 ≤ 44
      omega
  · have := t4 (Or.inr q)
    rw [op_6 q, cl_6 q, q, List.length_append, List.length_append]
    refine ⟨by decide, fun z => absurd z (by decide), fun z => absurd z (by decide), fun _ => ?_, fun z => absurd z (by decide)⟩
    show 1 + (1 + _ + 1) ≤ 44
    omega
theorem tx_len (hk : okK n K F T) : ∀ (f : Nat) {i e : Nat}, tm K f i = some e → f ≤ 64 → e ≤ n → (tx K F T f i).length ≤ 44 * (e - i) := by
  intro f
  induction f with
  | zero => intro i e h; cases h
  | succ f ih =>
    intro i e h hf he
    have hlt := tm_lt h
    obtain ⟨f', ef, hc⟩ := tm_cases h
    obtain rfl : f = f' := by omega
    obtain ⟨o1, o2, o3, o4, o5⟩ := op_len hk (i := i) (by omega)
    show (if ar (K i) = 0 then own i (opT K F T i) else if ar (K i) = 1 then own i (opT K F T i) ++ tx K F T f (i + 1) ++ own i (clT K F T i) else own i (opT K F T i) ++ tx K F T f (i + 1) ++ [(mdT K i, i)] ++ tx K F T f (eN K (i + 1)) ++ own i (clT K F T i)).length ≤ _
    rcases hc with ⟨q, e1⟩ | ⟨q, h1⟩ | ⟨q, d, h1, h2⟩
    · rw [if_pos q, own_len]; have := o2 q; omega
    · have l1 := tm_lt h1
      have := ih h1 (by omega) he
      have := o4 q
      rw [if_neg (by omega), if_pos q, List.length_append, List.length_append, own_len, own_len]
      omega
    · have l1 := tm_lt h1
      have l2 := tm_lt h2
      have := ih h1 (by omega) (by omega)
      have := ih h2 (by omega) he
      have := o3 q
      have := o5 q
      rw [if_neg (by omega), if_neg (by omega), eN_of (by omega) h1, List.length_append, List.length_append, List.length_append, List.length_append, own_len, own_len]
      show _ + _ + 1 + _ + _ ≤ _
      omega
end TEXT
