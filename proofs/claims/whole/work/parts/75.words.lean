/-! numbers and types on both tapes -/
def own (o : Nat) (M : List Int32) : Tp := M.map (fun c => (c, o))
theorem own_len (o : Nat) (M : List Int32) : (own o M).length = M.length := by unfold own; simp
theorem own_ap (o : Nat) (M N : List Int32) : own o (M ++ N) = own o M ++ own o N := by unfold own; simp
theorem own_1 (o : Nat) (c : Int32) : own o [c] = [(c, o)] := rfl
theorem own_0 (o : Nat) : own o [] = [] := rfl
/-- the class writes M -/
def WR (f : Mem → Option (Unit × Mem)) (M : Tp) : Prop := ∀ (σ : Mem) (L : Tp), TC σ L → L.length + M.length ≤ 1760 → ∃ σ', f σ = some ((), σ') ∧ TC σ' (L ++ M) ∧ frW σ σ'
theorem WR_bn {f g : Mem → Option (Unit × Mem)} {M N : Tp} (h1 : WR f M) (h2 : WR g N) : WR (fun σ => bn (f σ) fun (_ : Unit) (s : Mem) => g s) (M ++ N) := fun σ L hT hl => by
  rw [List.length_append] at hl
  obtain ⟨σ1, a1, a2, a3⟩ := h1 σ L hT (by omega)
  obtain ⟨σ2, b1, b2, b3⟩ := h2 σ1 (L ++ M) a2 (by rw [List.length_append]; omega)
  refine ⟨σ2, ?_, by rw [← List.append_assoc]; exact b2, frW_tr a3 b3⟩
  show bn (f σ) _ = _
  rw [a1, bn_q, b1]
theorem WR_0 : WR (fun σ => some ((), σ)) [] := fun σ L hT _ => ⟨σ, rfl, by rw [List.append_nil]; exact hT, frW_rf σ⟩
theorem WR_1 (c : Int32) (o : Nat) : WR (f_Pa_writeSign c) [(c, o)] := fun σ L hT hl => s_sign hT (by have : ([(c, o)] : Tp).length = 1 := rfl; omega) c o
theorem WR_r {f : Mem → Option (Unit × Mem)} {M : Tp} (h : WR f M) : WR (fun σ => bn (f σ) fun (_ : Unit) (s : Mem) => some ((), s)) M := by
  have := WR_bn h WR_0
  rwa [List.append_nil] at this
theorem WR_eq {f g : Mem → Option (Unit × Mem)} {M N : Tp} (h : WR f M) (hf : ∀ σ, g σ = f σ) (hM : M = N) : WR g N := fun σ L hT hl => by
  rw [hf]
  rw [← hM] at hl ⊢
  exact h σ L hT hl
/-- the reference puts M -/
def PU (f : Mem → Option (Unit × Mem)) (M : Tp) : Prop := ∀ (σ : Mem) (L : Tp), TM σ L → L.length + M.length ≤ 1790 → ∃ σ', f σ = some ((), σ') ∧ TM σ' (L ++ M) ∧ frP σ σ'
theorem PU_bn {f g : Mem → Option (Unit × Mem)} {M N : Tp} (h1 : PU f M) (h2 : PU g N) : PU (fun σ => bn (f σ) fun (_ : Unit) (s : Mem) => g s) (M ++ N) := fun σ L hT hl => by
  rw [List.length_append] at hl
  obtain ⟨σ1, a1, a2, a3⟩ := h1 σ L hT (by omega)
  obtain ⟨σ2, b1, b2, b3⟩ := h2 σ1 (L ++ M) a2 (by rw [List.length_append]; omega)
  refine ⟨σ2, ?_, by rw [← List.append_assoc]; exact b2, frP_tr a3 b3⟩
  show bn (f σ) _ = _
  rw [a1, bn_q, b1]
theorem PU_0 : PU (fun σ => some ((), σ)) [] := fun σ L hT _ => ⟨σ, rfl, by rw [List.append_nil]; exact hT, frP_rf σ⟩
theorem PU_1 (c : Int32) (o : Nat) : PU (f_Mo_put c (nI o)) [(c, o)] := fun σ L hT hl => s_put hT (by have : ([(c, o)] : Tp).length = 1 := rfl; omega) c o
theorem PU_r {f : Mem → Option (Unit × Mem)} {M : Tp} (h : PU f M) : PU (fun σ => bn (f σ) fun (_ : Unit) (s : Mem) => some ((), s)) M := by
  have := PU_bn h PU_0
  rwa [List.append_nil] at this
/-- a number's text -/
def absI (x : Int32) : Int32 := if 0 ≤ x then x else -x
def t1_ (a : Int32) : List Int32 := [48 + (a - a / 10 * 10)]
def t2_ (a : Int32) : List Int32 := if a ≤ 9 then t1_ a else [48 + (a / 10 - a / 10 / 10 * 10)] ++ t1_ a
def t3_ (a : Int32) : List Int32 := if a ≤ 99 then t2_ a else [48 + a / 100] ++ t2_ a
def numT (x : Int32) : List Int32 := if 0 ≤ x then t3_ (absI x) else [45] ++ t3_ (absI x)
theorem numT_len (x : Int32) : (numT x).length ≤ 4 := by
  have h1 : ∀ a, (t1_ a).length = 1 := fun _ => rfl
  have h2 : ∀ a, (t2_ a).length ≤ 2 := fun a => by
    unfold t2_
    split
    · rw [h1]; omega
    · rw [List.length_append, h1]; exact Nat.le_refl 2
  have h3 : ∀ a, (t3_ a).length ≤ 3 := fun a => by
    unfold t3_
    split
    · have := h2 a; omega
    · rw [List.length_append]; have := h2 a; show 1 + _ ≤ 3; omega
  unfold numT
  split
  · have := h3 (absI x); omega
  · rw [List.length_append]; have := h3 (absI x); show 1 + _ ≤ 4; omega
theorem lt_le9 {a : Int32} : a < 10 ↔ a ≤ 9 := by
  rw [Int32.lt_iff_toInt_lt, Int32.le_iff_toInt_le]
  show a.toInt < 10 ↔ a.toInt ≤ 9
  omega
theorem lt_le99 {a : Int32} : a < 100 ↔ a ≤ 99 := by
  rw [Int32.lt_iff_toInt_lt, Int32.le_iff_toInt_le]
  show a.toInt < 100 ↔ a.toInt ≤ 99
  omega
theorem W_num (x : Int32) (o : Nat) : WR (f_Pa_writeNumber x) (own o (numT x)) := by
  have h1 : ∀ v a, WR (f_Pa_writeNumber_J52 v a) (own o (t1_ a)) := fun v a => WR_r (WR_1 _ o)
  have h2 : ∀ v a, WR (f_Pa_writeNumber_J32 v a) (own o (t2_ a)) := fun v a => by
    unfold t2_
    by_cases q : a ≤ 9
    · rw [if_pos q]
      exact WR_eq (h1 v a) (fun σ => by unfold f_Pa_writeNumber_J32; rw [if_pos (lt_le9.mpr q)]) rfl
    · rw [if_neg q, own_ap]
      exact WR_eq (WR_bn (WR_1 _ o) (h1 v a)) (fun σ => by unfold f_Pa_writeNumber_J32; rw [if_neg (fun z => q (lt_le9.mp z))]) rfl
  have h3 : ∀ v a, WR (f_Pa_writeNumber_J15 v a) (own o (t3_ a)) := fun v a => by
    unfold t3_
    by_cases q : a ≤ 99
    · rw [if_pos q]
      exact WR_eq (h2 v a) (fun σ => by unfold f_Pa_writeNumber_J15; rw [if_pos (lt_le99.mpr q)]) rfl
    · rw [if_neg q, own_ap]
      exact WR_eq (WR_bn (WR_1 _ o) (h2 v a)) (fun σ => by unfold f_Pa_writeNumber_J15; rw [if_neg (fun z => q (lt_le99.mp z))]) rfl
  have e : (if 0 ≤ x then x else 0 - x) = absI x := by unfold absI; rw [Int32.zero_sub]
  unfold numT
  by_cases q : 0 ≤ x
  · rw [if_pos q]
    refine WR_eq (h3 x (absI x)) (fun σ => ?_) rfl
    unfold f_Pa_writeNumber
    simp only [lt_]
    rw [e, if_pos q]
  · rw [if_neg q, own_ap]
    refine WR_eq (WR_bn (WR_1 45 o) (h3 x (absI x))) (fun σ => ?_) rfl
    unfold f_Pa_writeNumber
    simp only [lt_]
    rw [e, if_neg q]
theorem PU_eq {f g : Mem → Option (Unit × Mem)} {M N : Tp} (h : PU f M) (hf : ∀ σ, g σ = f σ) (hM : M = N) : PU g N := fun σ L hT hl => by
  rw [hf]
  rw [← hM] at hl ⊢
  exact h σ L hT hl
theorem P_num (x : Int32) (o : Nat) : PU (f_Mo_putNumber x (nI o)) (own o (numT x)) := by
  have h1 : ∀ v a, PU (f_Mo_putNumber_J61 v (nI o) a) (own o (t1_ a)) := fun v a => PU_r (PU_1 _ o)
  have h2 : ∀ v a, PU (f_Mo_putNumber_J40 v (nI o) a) (own o (t2_ a)) := fun v a => by
    unfold t2_
    by_cases q : a ≤ 9
    · rw [if_pos q]
      exact PU_eq (h1 v a) (fun σ => by unfold f_Mo_putNumber_J40; rw [if_pos q]) rfl
    · rw [if_neg q, own_ap]
      exact PU_eq (PU_bn (PU_1 _ o) (h1 v a)) (fun σ => by unfold f_Mo_putNumber_J40; rw [if_neg q]) rfl
  have h3 : ∀ v a, PU (f_Mo_putNumber_J22 v (nI o) a) (own o (t3_ a)) := fun v a => by
    unfold t3_
    by_cases q : a ≤ 99
    · rw [if_pos q]
      exact PU_eq (h2 v a) (fun σ => by unfold f_Mo_putNumber_J22; rw [if_pos q]) rfl
    · rw [if_neg q, own_ap]
      exact PU_eq (PU_bn (PU_1 _ o) (h2 v a)) (fun σ => by unfold f_Mo_putNumber_J22; rw [if_neg q]) rfl
  unfold numT absI
  by_cases q : 0 ≤ x
  · rw [if_pos q, if_pos q]
    refine PU_eq (h3 x x) (fun σ => ?_) rfl
    unfold f_Mo_putNumber f_Mo_putNumber_J10
    rw [if_pos q, if_pos q]
  · rw [if_neg q, if_neg q, own_ap]
    refine PU_eq (PU_bn (PU_1 45 o) (h3 x (-x))) (fun σ => ?_) rfl
    unfold f_Mo_putNumber f_Mo_putNumber_J10
    rw [if_neg q, if_neg q]
/-- a type's text -/
def tyTx (u : Nat) : Nat → Nat → List Int32
  | 0, _ => []
  | f + 1, i => if dg u i = 3 then [60] ++ tyTx u f (i + 1) ++ tyTx u f (nx u (i + 1)) ++ [62] else if dg u i = 2 then [35] else [42]
theorem tyTx_len {u : Nat} : ∀ (f : Nat) {a i e : Nat}, tyE (dg u) a i = some e → e ≤ 28 → 2 * (tyTx u f i).length + 1 ≤ 3 * (e - i) := by
  intro f
  induction f with
  | zero => intro a i e h _; have := tyE_lt h; show 2 * 0 + 1 ≤ _; omega
  | succ f ih =>
    intro a i e h he
    have hlt := tyE_lt h
    obtain ⟨_, _, _, hc⟩ := tyE_cases h
    show 2 * (if dg u i = 3 then [60] ++ tyTx u f (i + 1) ++ tyTx u f (nx u (i + 1)) ++ [62] else if dg u i = 2 then [35] else [42] : List Int32).length + 1 ≤ _
    rcases hc with ⟨h3, e1⟩ | ⟨h3, q, h1, h2⟩
    · rw [if_neg h3]
      split <;> (show 2 * 1 + 1 ≤ _; omega)
    · rw [if_pos h3, (nx_of h1 (by have := tyE_lt h2; omega)).2]
      have a1 := ih h1 (by have := tyE_lt h2; omega)
      have a2 := ih h2 he
      have l1 := tyE_lt h1
      have l2 := tyE_lt h2
      rw [List.length_append, List.length_append, List.length_append]
      show 2 * (1 + _ + _ + 1) + 1 ≤ _
      omega
theorem tyTx_move {u U : Nat} : ∀ (f : Nat) {a i e i' : Nat}, tyE (dg u) a i = some e → e ≤ 28 → i' ≤ i → (∀ x, i ≤ x → x < e → dg U (i' + (x - i)) = dg u x) → tyTx U f i' = tyTx u f i := by
  intro f
  induction f with
  | zero => intros; rfl
  | succ f ih =>
    intro a i e i' h he hi hd
    have hlt := tyE_lt h
    have d1 := hd i (Nat.le_refl _) hlt
    rw [Nat.sub_self, Nat.add_zero] at d1
    show (if dg U i' = 3 then [60] ++ tyTx U f (i' + 1) ++ tyTx U f (nx U (i' + 1)) ++ [62] else if dg U i' = 2 then [35] else [42]) = (if dg u i = 3 then [60] ++ tyTx u f (i + 1) ++ tyTx u f (nx u (i + 1)) ++ [62] else if dg u i = 2 then [35] else [42])
    rw [d1]
    by_cases q : dg u i = 3
    · rw [if_pos q, if_pos q]
      obtain ⟨_, _, _, hc⟩ := tyE_cases h
      rcases hc with ⟨z, _⟩ | ⟨_, q, x1, x2⟩
      · exact absurd q z
      have m1 := tyE_lt x1
      have m2 := tyE_lt x2
      have X := tyE_move (d' := dg U) x1 (i' := i' + 1) (fun x hx hx2 => by
        have := hd x (by omega) (by omega)
        rwa [show i' + 1 + (x - (i + 1)) = i' + (x - i) by omega])
      rw [(nx_of x1 (by omega)).2, (nx_of X (by omega)).2]
      rw [ih x1 (by omega) (by omega) (fun x hx hx2 => by
        have := hd x (by omega) (by omega)
        rwa [show i' + 1 + (x - (i + 1)) = i' + (x - i) by omega])]
      rw [ih x2 he (i' := i' + 1 + (q - (i + 1))) (by omega) (fun x hx hx2 => by
        have := hd x (by omega) (by omega)
        rwa [show i' + 1 + (q - (i + 1)) + (x - q) = i' + (x - i) by omega])]
    · rw [if_neg q, if_neg q]
theorem tyTx_seg {u f i e a : Nat} (h : tyE (dg u) a i = some e) (he : e ≤ 28) : tyTx (segN u i e) f 0 = tyTx u f i :=
  tyTx_move f h he (Nat.zero_le _) (fun x hx hx2 => by rw [Nat.zero_add, dg_seg (by omega)]; congr 1; omega)
theorem W_type (o : Nat) : ∀ (f : Nat) {u m d g : Nat}, tyV u m → m ≤ f → m + d ≤ 27 → m ≤ g → WR (F_Pa_writeType g (lN u) (nI d)) (own o (tyTx u f 0)) := by
  intro f
  induction f with
  | zero => intro u m d g h hm; have := (V_0 h).2.2; omega
  | succ f ih =>
    intro u m d g h hm hd hg
    have hm0 := (V_0 h).2.2
    obtain ⟨g, rfl⟩ : ∃ k, g = k + 1 := ⟨g - 1, by omega⟩
    have hu := tyV_lt h
    have t2 : lN u = 2 ↔ dg u 0 = 2 := V_at h (d := 2) (by decide) (by decide)
    have f1 : isF (lN u) ↔ dg u 0 = 3 := isF_dg (by omega)
    have lt : nI d < 27 := (nIlt (b := 27) (by omega) (by decide)).mpr (by omega)
    show WR (f_Pa_writeType (F_Pa_writeType g) (lN u) (nI d)) (own o (if dg u 0 = 3 then [60] ++ tyTx u f (0 + 1) ++ tyTx u f (nx u (0 + 1)) ++ [62] else if dg u 0 = 2 then [35] else [42]))
    by_cases q : dg u 0 = 3
    · rw [if_pos q]
      obtain ⟨p1, p2, p3, p4⟩ := V_from h q
      have hm27 := h.2.2
      have r1 := ih (d := d + 1) (g := g) (seg_V p3 (by omega)) (by omega) (by omega) (by omega)
      have r2 := ih (d := d + 1) (g := g) (seg_V p4 (by omega)) (by omega) (by omega) (by omega)
      rw [tyTx_seg p3 (by omega)] at r1
      rw [tyTx_seg p4 (by omega)] at r2
      refine WR_eq (WR_bn (WR_bn (WR_bn (WR_1 60 o) r1) r2) (WR_1 62 o)) (fun σ => ?_) (by rw [own_ap, own_ap, own_ap]; rfl)
      unfold f_Pa_writeType
      rw [if_pos lt, s_Ty_isFrom, bn_q, if_pos (f1.mpr q), if_neg (by decide)]
      cases hw : f_Pa_writeSign 60 σ with
      | none => rfl
      | some y =>
        obtain ⟨_, σ7⟩ := y
        rw [bn_q, bn_q, (s_taken (okT_of h) (f1.mpr q) σ7).1, bn_q, nI_1, tkF_lN (by omega)]
        cases hw2 : F_Pa_writeType g (lN (segN u 1 (nx u 1))) (nI (d + 1)) σ7 with
        | none => rfl
        | some y =>
          obtain ⟨_, σ12⟩ := y
          rw [bn_q, bn_q, (s_given (okT_of h) (f1.mpr q) σ12).1, bn_q, gvF_lN h q]
          cases hw3 : F_Pa_writeType g (lN (segN u (nx u 1) m)) (nI (d + 1)) σ12 with
          | none => rfl
          | some y =>
            obtain ⟨_, σ17⟩ := y
            rw [bn_q, bn_q]
            cases hw4 : f_Pa_writeSign 62 σ17 with
            | none => rfl
            | some y => rfl
    · rw [if_neg q]
      by_cases z : dg u 0 = 2
      · rw [if_pos z]
        refine WR_eq (WR_r (WR_1 35 o)) (fun σ => ?_) rfl
        unfold f_Pa_writeType f_Pa_writeType_J30
        rw [if_pos lt, s_Ty_isFrom, bn_q, if_neg (fun y => q (f1.mp y)), if_pos rfl, if_pos (cmp0.mpr (t2.mpr z))]
      · rw [if_neg z]
        refine WR_eq (WR_r (WR_1 42 o)) (fun σ => ?_) rfl
        unfold f_Pa_writeType f_Pa_writeType_J30
        rw [if_pos lt, s_Ty_isFrom, bn_q, if_neg (fun y => q (f1.mp y)), if_pos rfl, if_neg (fun y => z (t2.mp (cmp0.mp y)))]
