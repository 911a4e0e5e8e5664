/-! consistent: both sides alike -/
def cnB (u v : Nat) : Nat → Nat → Nat → Bool
  | 0, _, _ => true
  | f + 1, i, j => if dg u i = 1 ∨ dg v j = 1 then true else if dg u i = 3 ∧ dg v j = 3 then cnB u v f (i + 1) (j + 1) && cnB u v f (nx u (i + 1)) (nx v (j + 1)) else decide (dg u i = dg v j)
theorem V_leaf {u m : Nat} (h : tyV u m) (h3 : dg u 0 ≠ 3) : u = dg u 0 := by
  obtain ⟨f', hf, hn, hc⟩ := tyE_cases h.1
  rcases hc with ⟨_, e⟩ | ⟨z, _⟩
  · have h1 := h.2.1
    rw [e] at h1
    unfold dg
    rw [Nat.pow_zero, Nat.div_one]
    omega
  · exact absurd z h3
theorem V_at {u m : Nat} (h : tyV u m) {d : Nat} (hd : d ≠ 3) (hd4 : d < 4) : lN u = lN d ↔ dg u 0 = d := by
  have hu := tyV_lt h
  constructor
  · intro e
    have := congrArg vN e
    rw [vN_lN (by omega), vN_lN (by omega)] at this
    rw [this]
    unfold dg
    rw [Nat.pow_zero, Nat.div_one]
    omega
  · intro e
    have := V_leaf h (by omega)
    rw [this, e]
theorem cn_move {u v U V : Nat} : ∀ (f : Nat) {a b i j i' j' e e' : Nat}, tyE (dg u) a i = some e → tyE (dg v) b j = some e' → e ≤ 28 → e' ≤ 28 → i' ≤ i → j' ≤ j → (∀ x, i ≤ x → x < e → dg U (i' + (x - i)) = dg u x) → (∀ x, j ≤ x → x < e' → dg V (j' + (x - j)) = dg v x) → cnB U V f i' j' = cnB u v f i j := by
  intro f
  induction f with
  | zero => intros; rfl
  | succ f ih =>
    intro a b i j i' j' e e' h1 h2 he he' hi hj hd hd'
    have l1 := tyE_lt h1
    have l2 := tyE_lt h2
    have d1 := hd i (Nat.le_refl _) l1
    have d2 := hd' j (Nat.le_refl _) l2
    rw [Nat.sub_self, Nat.add_zero] at d1 d2
    show (if dg U i' = 1 ∨ dg V j' = 1 then true else if dg U i' = 3 ∧ dg V j' = 3 then cnB U V f (i' + 1) (j' + 1) && cnB U V f (nx U (i' + 1)) (nx V (j' + 1)) else decide (dg U i' = dg V j')) = (if dg u i = 1 ∨ dg v j = 1 then true else if dg u i = 3 ∧ dg v j = 3 then cnB u v f (i + 1) (j + 1) && cnB u v f (nx u (i + 1)) (nx v (j + 1)) else decide (dg u i = dg v j))
    rw [d1, d2]
    by_cases q1 : dg u i = 1 ∨ dg v j = 1
    · rw [if_pos q1, if_pos q1]
    rw [if_neg q1, if_neg q1]
    by_cases q2 : dg u i = 3 ∧ dg v j = 3
    · rw [if_pos q2, if_pos q2]
      obtain ⟨_, _, _, c1⟩ := tyE_cases h1
      obtain ⟨_, _, _, c2⟩ := tyE_cases h2
      rcases c1 with ⟨z, _⟩ | ⟨_, q, x1, x2⟩
      · exact absurd q2.1 z
      rcases c2 with ⟨z, _⟩ | ⟨_, r, y1, y2⟩
      · exact absurd q2.2 z
      have m1 := tyE_lt x1
      have m2 := tyE_lt x2
      have m3 := tyE_lt y1
      have m4 := tyE_lt y2
      have nu := (nx_of x1 (by omega)).2
      have nv := (nx_of y1 (by omega)).2
      have X := tyE_move (d' := dg U) x1 (i' := i' + 1) (fun x hx hx2 => by
        have := hd x (by omega) (by omega)
        rwa [show i' + 1 + (x - (i + 1)) = i' + (x - i) by omega])
      have Y := tyE_move (d' := dg V) y1 (i' := j' + 1) (fun x hx hx2 => by
        have := hd' x (by omega) (by omega)
        rwa [show j' + 1 + (x - (j + 1)) = j' + (x - j) by omega])
      have nU := (nx_of X (by omega)).2
      have nV := (nx_of Y (by omega)).2
      rw [nu, nv, nU, nV]
      rw [ih x1 y1 (by omega) (by omega) (by omega) (by omega) (fun x hx hx2 => by
        have := hd x (by omega) (by omega)
        rwa [show i' + 1 + (x - (i + 1)) = i' + (x - i) by omega]) (fun x hx hx2 => by
        have := hd' x (by omega) (by omega)
        rwa [show j' + 1 + (x - (j + 1)) = j' + (x - j) by omega])]
      rw [ih x2 y2 (by omega) (by omega) (by omega) (by omega) (fun x hx hx2 => by
        have := hd x (by omega) (by omega)
        rwa [show i' + 1 + (q - (i + 1)) + (x - q) = i' + (x - i) by omega]) (fun x hx hx2 => by
        have := hd' x (by omega) (by omega)
        rwa [show j' + 1 + (r - (j + 1)) + (x - r) = j' + (x - j) by omega])]
    · rw [if_neg q2, if_neg q2]
theorem cn_seg {u v f i j e e' a b : Nat} (h1 : tyE (dg u) a i = some e) (h2 : tyE (dg v) b j = some e') (he : e ≤ 28) (he' : e' ≤ 28) : cnB (segN u i e) (segN v j e') f 0 0 = cnB u v f i j :=
  cn_move f h1 h2 he he' (Nat.zero_le _) (Nat.zero_le _) (fun x hx hx2 => by rw [Nat.zero_add, dg_seg (by omega)]; congr 1; omega) (fun x hx hx2 => by rw [Nat.zero_add, dg_seg (by omega)]; congr 1; omega)
def b1 (b : Bool) : Int32 := if b then 1 else 0
theorem tkF_lN {u : Nat} (hu : u < 2 ^ 64) : tkF (lN u) = lN (segN u 1 (nx u 1)) := by unfold tkF; rw [vN_lN hu]
theorem gvF_lN {u m : Nat} (h : tyV u m) (h3 : dg u 0 = 3) : gvF (lN u) = lN (segN u (nx u 1) m) := by
  unfold gvF
  rw [vN_lN (by have := tyV_lt h; omega), given_V h h3]
/-- the class's consistent -/
theorem C_con : ∀ (f : Nat) {u v m m' d g : Nat} (σ : Mem), tyV u m → tyV v m' → m ≤ f → m + d ≤ 27 → m ≤ g → F_Ty_consistent g (lN u) (lN v) (nI d) σ = some (b1 (cnB u v f 0 0), σ) := by
  intro f
  induction f with
  | zero => intro u v m m' d g σ h1 h2 hm; have := (V_0 h1).2.2; omega
  | succ f ih =>
    intro u v m m' d g σ h1 h2 hm hd hg
    have hm0 := (V_0 h1).2.2
    obtain ⟨g, rfl⟩ : ∃ k, g = k + 1 := ⟨g - 1, by omega⟩
    have hu := tyV_lt h1
    have hv := tyV_lt h2
    have l1 : (1 : Int64) = lN 1 := rfl
    have t1 : lN u = 1 ↔ dg u 0 = 1 := V_at h1 (d := 1) (by decide) (by decide)
    have t2 : lN v = 1 ↔ dg v 0 = 1 := V_at h2 (d := 1) (by decide) (by decide)
    show f_Ty_consistent (F_Ty_consistent g) (lN u) (lN v) (nI d) σ = some (b1 (if dg u 0 = 1 ∨ dg v 0 = 1 then true else if dg u 0 = 3 ∧ dg v 0 = 3 then cnB u v f (0 + 1) (0 + 1) && cnB u v f (nx u (0 + 1)) (nx v (0 + 1)) else decide (dg u 0 = dg v 0)), σ)
    unfold f_Ty_consistent f_Ty_consistent_J19 f_Ty_consistent_J35 f_Ty_consistent_J46 f_Ty_consistent_J87 f_Ty_consistent_J88
    by_cases a1 : dg u 0 = 1
    · rw [if_pos (cmp0.mpr (t1.mpr a1)), if_pos (Or.inl a1)]; rfl
    rw [if_neg (fun z => a1 (t1.mp (cmp0.mp z)))]
    by_cases a2 : dg v 0 = 1
    · rw [if_pos (cmp0.mpr (t2.mpr a2)), if_pos (Or.inr a2)]; rfl
    rw [if_neg (fun z => a2 (t2.mp (cmp0.mp z))), if_neg (show ¬ (dg u 0 = 1 ∨ dg v 0 = 1) from fun z => z.elim a1 a2)]
    rw [if_pos (show nI d < 27 from (nIlt (b := 27) (by omega) (by decide)).mpr (by omega)), s_Ty_isFrom, bn_q]
    have f1 : isF (lN u) ↔ dg u 0 = 3 := isF_dg (by omega)
    have f2 : isF (lN v) ↔ dg v 0 = 3 := isF_dg (by omega)
    have eqv : ¬ (dg u 0 = 3 ∧ dg v 0 = 3) → (if lg_cmp (lN u) (lN v) = 0 then gd (isB 1) (some ((1 : Int32), σ)) else gd (isB 0) (some ((0 : Int32), σ))) = some (b1 (if dg u 0 = 3 ∧ dg v 0 = 3 then cnB u v f (0 + 1) (0 + 1) && cnB u v f (nx u (0 + 1)) (nx v (0 + 1)) else decide (dg u 0 = dg v 0)), σ) := fun z => by
      rw [if_neg z]
      by_cases w : dg u 0 = dg v 0
      · have e1 := V_leaf h1 (fun q => z ⟨q, by omega⟩)
        have e2 := V_leaf h2 (fun q => z ⟨by omega, q⟩)
        rw [if_pos (cmp0.mpr (by rw [e1, e2, w])), decide_eq_true w]; rfl
      · rw [if_neg (fun q => w (by
          have := congrArg vN (cmp0.mp q)
          rw [vN_lN (by omega), vN_lN (by omega)] at this
          rw [this])), decide_eq_false w]; rfl
    by_cases b1_ : dg u 0 = 3
    · rw [if_pos (f1.mpr b1_), if_neg (by decide), s_Ty_isFrom, bn_q]
      by_cases b2_ : dg v 0 = 3
      · rw [if_pos (f2.mpr b2_), if_neg (by decide), if_pos ⟨b1_, b2_⟩]
        obtain ⟨p1, p2, p3, p4⟩ := V_from h1 b1_
        obtain ⟨q1, q2, q3, q4⟩ := V_from h2 b2_
        have hm27 := h1.2.2
        have hm27' := h2.2.2
        have L : ∀ {x y : Nat} {tx ty : Nat}, tyV x tx → tyV y ty → tx + 1 ≤ m → F_Ty_consistent g (lN x) (lN y) (nI d + 1) σ = some (b1 (cnB x y f 0 0), σ) := fun hx hy hl => by
          rw [nI_1]
          exact ih σ hx hy (by omega) (by omega) (by omega)
        rw [(s_taken (okT_of h1) (f1.mpr b1_) σ).1, bn_q, (s_taken (okT_of h2) (f2.mpr b2_) σ).1, bn_q, tkF_lN (by omega), tkF_lN (by omega), L (seg_V p3 (by omega)) (seg_V q3 (by omega)) (by omega), bn_q, cn_seg p3 q3 (by omega) (by omega)]
        cases c1 : cnB u v f 1 1 with
        | false => rw [if_pos (show b1 false = 0 from rfl), Bool.false_and]; rfl
        | true =>
          rw [if_neg (show ¬ b1 true = 0 by decide), (s_given (okT_of h1) (f1.mpr b1_) σ).1, bn_q, (s_given (okT_of h2) (f2.mpr b2_) σ).1, bn_q, gvF_lN h1 b1_, gvF_lN h2 b2_, L (seg_V p4 (by omega)) (seg_V q4 (by omega)) (by omega), bn_q, cn_seg p4 q4 (by omega) (by omega), Bool.true_and]
          cases c2 : cnB u v f (nx u (0 + 1)) (nx v (0 + 1)) with
          | false => rw [if_pos (show b1 false = 0 from rfl)]; rfl
          | true => rw [if_neg (show ¬ b1 true = 0 by decide)]; rfl
      · rw [if_neg (fun z => b2_ (f2.mp z)), if_pos rfl]
        exact eqv (fun z => b2_ z.2)
    · rw [if_neg (fun z => b1_ (f1.mp z)), if_pos rfl]
      exact eqv (fun z => b1_ z.1)
/-- the reference's consistent -/
theorem con_step1 {u v : Nat} (hu : u < 2 ^ 64) (hv : v < 2 ^ 64) {i j e e' a b r : Nat} (σ : Mem) (h1 : tyE (dg u) a i = some e) (h2 : tyE (dg v) b j = some e') (he : e ≤ 27) (he' : e' ≤ 27) (hr : r < 1000) (h : dg u i = 1 ∨ dg v j = 1) : f_Mo_consistent_L9 (lN u) (lN v) (nI i) (nI j) (nI (r + 1)) σ = some (.inl (nI e, nI e', nI r, σ)) := by
  have l1 := tyE_lt h1
  have l2 := tyE_lt h2
  unfold f_Mo_consistent_L9
  rw [if_neg (nI_nle (by omega) (by omega)), s_Mo_symbol hu (by omega), bn_q, s_Mo_symbol hv (by omega), bn_q]
  have J : f_Mo_consistent_J42 (lN u) (lN v) (nI i) (nI j) (nI (r + 1)) (nI (dg u i)) (nI (dg v j)) σ = some (.inl (nI e, nI e', nI r, σ)) := by
    unfold f_Mo_consistent_J42 f_Mo_consistent_J95
    rw [s_Mo_behind hu (by omega), (nx_of h1 (by omega)).1, bn_q, s_Mo_behind hv (by omega), (nx_of h2 (by omega)).1, bn_q]
    show some (Sum.inl (nI e, nI e', nI (r + 1) + (-1), σ)) = _
    rw [pk_m1]
  by_cases q1 : dg u i = 1
  · rw [if_pos (dg_1.mpr q1), J]
  · rw [if_neg (fun z => q1 (dg_1.mp z)), if_pos (dg_1.mpr (h.resolve_left q1)), J]
theorem con_step2 {u v : Nat} (hu : u < 2 ^ 64) (hv : v < 2 ^ 64) {i j r : Nat} (σ : Mem) (hi : i < 28) (hj : j < 28) (h : ¬ (dg u i = 1 ∨ dg v j = 1)) : f_Mo_consistent_L9 (lN u) (lN v) (nI i) (nI j) (nI (r + 1)) σ = if nI (r + 1) ≤ 0 then some (.inr (1, σ)) else if dg u i = dg v j then (if dg u i = 3 then some (.inl (nI (i + 1), nI (j + 1), nI (r + 1 + 1), σ)) else some (.inl (nI (i + 1), nI (j + 1), nI r, σ))) else some (.inr (0, σ)) := by
  unfold f_Mo_consistent_L9
  by_cases z : nI (r + 1) ≤ 0
  · rw [if_pos z, if_pos z]; rfl
  rw [if_neg z, if_neg z, s_Mo_symbol hu (by omega), bn_q, s_Mo_symbol hv (by omega), bn_q, if_neg (fun z => h (Or.inl (dg_1.mp z))), if_neg (fun z => h (Or.inr (dg_1.mp z)))]
  have d1 := dg_lt u i
  have d2 := dg_lt v j
  have eq : nI (dg u i) = nI (dg v j) ↔ dg u i = dg v j := nI_eq (by omega) (by omega)
  unfold f_Mo_consistent_J92 f_Mo_consistent_J95
  simp only [lt_]
  rw [nI_1, nI_1]
  by_cases q : dg u i = dg v j
  · rw [if_pos (eq.mpr q), if_pos q]
    by_cases q3 : dg u i = 3
    · rw [if_pos (dg_3.mpr q3), if_pos q3, nI_1]
    · rw [if_neg (fun z => q3 (dg_3.mp z)), if_neg q3, pk_m1]
  · rw [if_neg (fun z => q (eq.mp z)), if_neg q]
    rfl
theorem con_run {u v : Nat} (hu : u < 2 ^ 64) (hv : v < 2 ^ 64) (σ : Mem) : ∀ (f : Nat) {a b i j e e' r : Nat}, tyE (dg u) a i = some e → tyE (dg v) b j = some e' → e - i ≤ f → e ≤ 27 → e' ≤ 27 → r + e < 100 + i → (cnB u v f i j = true → ∀ (k : Nat) (z : Int32 × Mem), loopF (fun (q : (Int32 × Int32 × Int32 × Mem)) => f_Mo_consistent_L9 (lN u) (lN v) q.1 q.2.1 q.2.2.1 q.2.2.2) k (nI e, nI e', nI r, σ) = some z → loopF (fun (q : (Int32 × Int32 × Int32 × Mem)) => f_Mo_consistent_L9 (lN u) (lN v) q.1 q.2.1 q.2.2.1 q.2.2.2) (k + (e - i)) (nI i, nI j, nI (r + 1), σ) = some z) ∧ (cnB u v f i j = false → loopF (fun (q : (Int32 × Int32 × Int32 × Mem)) => f_Mo_consistent_L9 (lN u) (lN v) q.1 q.2.1 q.2.2.1 q.2.2.2) (e - i) (nI i, nI j, nI (r + 1), σ) = some (0, σ)) := by
  intro f
  induction f with
  | zero => intro a b i j e e' r h1; have := tyE_lt h1; intros; omega
  | succ f ih =>
    intro a b i j e e' r h1 h2 hef he he' hr
    have l1 := tyE_lt h1
    have l2 := tyE_lt h2
    show ((if dg u i = 1 ∨ dg v j = 1 then true else if dg u i = 3 ∧ dg v j = 3 then cnB u v f (i + 1) (j + 1) && cnB u v f (nx u (i + 1)) (nx v (j + 1)) else decide (dg u i = dg v j)) = true → _) ∧ ((if dg u i = 1 ∨ dg v j = 1 then true else if dg u i = 3 ∧ dg v j = 3 then cnB u v f (i + 1) (j + 1) && cnB u v f (nx u (i + 1)) (nx v (j + 1)) else decide (dg u i = dg v j)) = false → _)
    by_cases q1 : dg u i = 1 ∨ dg v j = 1
    · rw [if_pos q1]
      refine ⟨fun _ k z hk => ?_, fun z => (by cases z)⟩
      refine lp_mono (n := k + 1) (lp_step (b := (nI e, nI e', nI r, σ)) ?_ hk) (by omega)
      exact con_step1 hu hv σ h1 h2 he he' (by omega) q1
    rw [if_neg q1]
    have st := con_step2 hu hv (r := r) σ (i := i) (j := j) (by omega) (by omega) q1
    rw [if_neg (nI_nle (by omega) (by omega))] at st
    by_cases q2 : dg u i = 3 ∧ dg v j = 3
    · rw [if_pos q2]
      rw [if_pos (by omega), if_pos q2.1] at st
      obtain ⟨_, _, _, c1⟩ := tyE_cases h1
      obtain ⟨_, _, _, c2⟩ := tyE_cases h2
      rcases c1 with ⟨z, _⟩ | ⟨_, q, x1, x2⟩
      · exact absurd q2.1 z
      rcases c2 with ⟨z, _⟩ | ⟨_, w, y1, y2⟩
      · exact absurd q2.2 z
      have m1 := tyE_lt x1
      have m2 := tyE_lt x2
      have m3 := tyE_lt y1
      have m4 := tyE_lt y2
      rw [(nx_of x1 (by omega)).2, (nx_of y1 (by omega)).2]
      obtain ⟨A1, A2⟩ := ih (r := r + 1) x1 y1 (by omega) (by omega) (by omega) (by omega)
      obtain ⟨B1, B2⟩ := ih (r := r) x2 y2 (by omega) he he' (by omega)
      cases c1 : cnB u v f (i + 1) (j + 1) with
      | false =>
        rw [Bool.false_and]
        refine ⟨fun z => (by cases z), fun _ => ?_⟩
        refine lp_mono (n := q - (i + 1) + 1) (lp_step (b := (nI (i + 1), nI (j + 1), nI (r + 1 + 1), σ)) ?_ (A2 c1)) (by omega)
        exact st
      | true =>
        rw [Bool.true_and]
        refine ⟨fun c2 k z hk => ?_, fun c2 => ?_⟩
        · refine lp_mono (n := k + (e - q) + (q - (i + 1)) + 1) (lp_step (b := (nI (i + 1), nI (j + 1), nI (r + 1 + 1), σ)) ?_ (A1 c1 _ z (B1 c2 k z hk))) (by omega)
          exact st
        · refine lp_mono (n := e - q + (q - (i + 1)) + 1) (lp_step (b := (nI (i + 1), nI (j + 1), nI (r + 1 + 1), σ)) ?_ (A1 c1 _ _ (B2 c2))) (by omega)
          exact st
    · rw [if_neg q2]
      refine ⟨fun c k z hk => ?_, fun c => ?_⟩
      · have c' := of_decide_eq_true c
        have n3 : ¬ dg u i = 3 := fun z => q2 ⟨z, by omega⟩
        rw [if_pos c', if_neg n3] at st
        obtain ⟨_, _, _, c1⟩ := tyE_cases h1
        obtain ⟨_, _, _, c2⟩ := tyE_cases h2
        rcases c1 with ⟨_, e1⟩ | ⟨z, _⟩
        · rcases c2 with ⟨_, e2⟩ | ⟨z, _⟩
          · rw [e1, e2] at hk
            refine lp_mono (n := k + 1) (lp_step (b := (nI (i + 1), nI (j + 1), nI r, σ)) ?_ hk) (by omega)
            exact st
          · exact absurd (by omega) n3
        · exact absurd z n3
      · have c' := of_decide_eq_false c
        rw [if_neg c'] at st
        refine lp_mono (n := 1) (lp_exit ?_) (by omega)
        exact st
noncomputable def cnF (x y : Int64) : Int32 := b1 (cnB (vN x) (vN y) 28 0 0)
theorem s_cons {x y : Int64} (hx : okT x) (hy : okT y) (σ : Mem) : F_Ty_consistent 28 x y 0 σ = some (cnF x y, σ) ∧ f_Mo_consistent x y σ = some (cnF x y, σ) := by
  obtain ⟨m, hV⟩ := okT_x hx
  obtain ⟨m', hW⟩ := okT_x hy
  have hu := vN_lt x
  have hv := vN_lt y
  unfold cnF
  rw [vN_eq x, vN_eq y, vN_lN hu, vN_lN hv]
  have hm := hV.2.2
  have hm' := hW.2.2
  refine ⟨C_con 28 (d := 0) σ hV hW (by omega) (by omega) (by omega), ?_⟩
  unfold f_Mo_consistent
  simp only [lt_]
  have R := con_run hu hv σ 28 (r := 0) hV.1 hW.1 (by omega) (by omega) (by omega) (by omega)
  cases c : cnB (vN x) (vN y) 28 0 0 with
  | true =>
    have := R.1 c 1 (1, σ) (lp_exit (by
      show f_Mo_consistent_L9 (lN (vN x)) (lN (vN y)) (nI m) (nI m') (nI 0) σ = _
      unfold f_Mo_consistent_L9
      rw [if_pos (show nI 0 ≤ 0 by decide)]
      rfl))
    exact lp_FU this (by omega)
  | false => exact lp_FU (R.2 c) (by omega)
