/-! who owns a sign of the text -/
theorem own_get {o : Nat} {M : List Int32} {q : Nat} (h : q < M.length) : ∃ x, (own o M)[q]? = some x ∧ x.2 = o := by
  refine ⟨(M[q], o), ?_, rfl⟩
  unfold own
  rw [List.getElem?_map, List.getElem?_eq_getElem h]
  rfl
theorem ap_l {M N : Tp} {q : Nat} (h : q < M.length) : (M ++ N)[q]? = M[q]? := List.getElem?_append_left h
theorem ap_r {M N : Tp} {q : Nat} (h : M.length ≤ q) : (M ++ N)[q]? = N[q - M.length]? := List.getElem?_append_right h
section OWNER
variable {n : Nat} {K F : Nat → Int32} {T : Nat → Int64}
theorem bg_in : ∀ (f : Nat) {i e : Nat}, tm K f i = some e → f ≤ 64 → ∀ (l j : Nat), i ≤ j → j < e → l ≤ bgn K F T f i l j ∧ enn K F T f i l j ≤ l + (tx K F T f i).length := by
  intro f
  induction f with
  | zero => intro i e h; cases h
  | succ f ih =>
    intro i e h hf l j h1 h2
    obtain ⟨f', ef, hc⟩ := tm_cases h
    obtain rfl : f = f' := by omega
    have ex : tx K F T (f + 1) i = if ar (K i) = 0 then own i (opT K F T i) else if ar (K i) = 1 then own i (opT K F T i) ++ tx K F T f (i + 1) ++ own i (clT K F T i) else own i (opT K F T i) ++ tx K F T f (i + 1) ++ [(mdT K i, i)] ++ tx K F T f (eN K (i + 1)) ++ own i (clT K F T i) := rfl
    have eb : bgn K F T (f + 1) i l j = if j = i then l else if ar (K i) = 1 ∨ j < eN K (i + 1) then bgn K F T f (i + 1) (l + (opT K F T i).length) j else bgn K F T f (eN K (i + 1)) (l + (opT K F T i).length + (tx K F T f (i + 1)).length + 1) j := rfl
    have ee : enn K F T (f + 1) i l j = if j = i then l + (tx K F T (f + 1) i).length else if ar (K i) = 1 ∨ j < eN K (i + 1) then enn K F T f (i + 1) (l + (opT K F T i).length) j else enn K F T f (eN K (i + 1)) (l + (opT K F T i).length + (tx K F T f (i + 1)).length + 1) j := rfl
    rw [eb, ee]
    by_cases z : j = i
    · rw [if_pos z, if_pos z]; exact ⟨Nat.le_refl _, Nat.le_refl _⟩
    · rw [if_neg z, if_neg z, ex]
      rcases hc with ⟨q, e1⟩ | ⟨q, g1⟩ | ⟨q, d, g1, g2⟩
      · omega
      · have zz : ar (K i) = 1 ∨ j < eN K (i + 1) := Or.inl q
        rw [if_pos zz, if_pos zz, if_neg (show ¬ ar (K i) = 0 by omega), if_pos q, List.length_append, List.length_append, own_len]
        obtain ⟨a, b⟩ := ih g1 (by omega) (l + (opT K F T i).length) j (by omega) h2
        constructor <;> omega
      · have ed : eN K (i + 1) = d := eN_of (by omega) g1
        rw [if_neg (show ¬ ar (K i) = 0 by omega), if_neg (show ¬ ar (K i) = 1 by omega), ed, List.length_append, List.length_append, List.length_append, List.length_append, own_len]
        have hmd : ([(mdT K i, i)] : Tp).length = 1 := rfl
        rw [hmd]
        by_cases y : j < d
        · have zz : ar (K i) = 1 ∨ j < d := Or.inr y
          rw [if_pos zz, if_pos zz]
          obtain ⟨a, b⟩ := ih g1 (by omega) (l + (opT K F T i).length) j (by omega) y
          constructor <;> omega
        · have zz : ¬ (ar (K i) = 1 ∨ j < d) := by omega
          rw [if_neg zz, if_neg zz]
          obtain ⟨a, b⟩ := ih g2 (by omega) (l + (opT K F T i).length + (tx K F T f (i + 1)).length + 1) j (by omega) h2
          constructor <;> omega
theorem owner : ∀ (f : Nat) {i e : Nat}, tm K f i = some e → f ≤ 64 → ∀ (l q : Nat), q < (tx K F T f i).length → ∃ x, (tx K F T f i)[q]? = some x ∧ i ≤ x.2 ∧ x.2 < e ∧ bgn K F T f i l x.2 ≤ l + q ∧ l + q < enn K F T f i l x.2 ∧ ∀ j, x.2 < j → j < e → ¬ (bgn K F T f i l j ≤ l + q ∧ l + q < enn K F T f i l j) := by
  intro f
  induction f with
  | zero => intro i e h; cases h
  | succ f ih =>
    intro i e h hf l q hq
    have hlt := tm_lt h
    obtain ⟨f', ef, hc⟩ := tm_cases h
    obtain rfl : f = f' := by omega
    have ex : tx K F T (f + 1) i = if ar (K i) = 0 then own i (opT K F T i) else if ar (K i) = 1 then own i (opT K F T i) ++ tx K F T f (i + 1) ++ own i (clT K F T i) else own i (opT K F T i) ++ tx K F T f (i + 1) ++ [(mdT K i, i)] ++ tx K F T f (eN K (i + 1)) ++ own i (clT K F T i) := rfl
    have eb : ∀ j, bgn K F T (f + 1) i l j = if j = i then l else if ar (K i) = 1 ∨ j < eN K (i + 1) then bgn K F T f (i + 1) (l + (opT K F T i).length) j else bgn K F T f (eN K (i + 1)) (l + (opT K F T i).length + (tx K F T f (i + 1)).length + 1) j := fun _ => rfl
    have ee : ∀ j, enn K F T (f + 1) i l j = if j = i then l + (tx K F T (f + 1) i).length else if ar (K i) = 1 ∨ j < eN K (i + 1) then enn K F T f (i + 1) (l + (opT K F T i).length) j else enn K F T f (eN K (i + 1)) (l + (opT K F T i).length + (tx K F T f (i + 1)).length + 1) j := fun _ => rfl
    have bi : bgn K F T (f + 1) i l i = l := if_pos rfl
    have ei : enn K F T (f + 1) i l i = l + (tx K F T (f + 1) i).length := if_pos rfl
    -- the sign is the term's own
    have mine : ∀ x : Int32 × Nat, (tx K F T (f + 1) i)[q]? = some x → x.2 = i → (∀ j, i < j → j < e → ¬ (bgn K F T (f + 1) i l j ≤ l + q ∧ l + q < enn K F T (f + 1) i l j)) → ∃ x, (tx K F T (f + 1) i)[q]? = some x ∧ i ≤ x.2 ∧ x.2 < e ∧ bgn K F T (f + 1) i l x.2 ≤ l + q ∧ l + q < enn K F T (f + 1) i l x.2 ∧ ∀ j, x.2 < j → j < e → ¬ (bgn K F T (f + 1) i l j ≤ l + q ∧ l + q < enn K F T (f + 1) i l j) := fun x hx h2 hj => by
      refine ⟨x, hx, by omega, by omega, ?_, ?_, ?_⟩
      · rw [h2, bi]; omega
      · rw [h2, ei]; omega
      · rw [h2]; exact hj
    rcases hc with ⟨k0, e1⟩ | ⟨k1, g1⟩ | ⟨k2, d, g1, g2⟩
    · have et : tx K F T (f + 1) i = own i (opT K F T i) := by rw [ex, if_pos k0]
      obtain ⟨x, x1, x2⟩ := own_get (o := i) (M := opT K F T i) (q := q) (by rw [et, own_len] at hq; exact hq)
      exact mine x (by rw [et]; exact x1) x2 (fun j _ _ => by omega)
    · have et : tx K F T (f + 1) i = own i (opT K F T i) ++ tx K F T f (i + 1) ++ own i (clT K F T i) := by rw [ex, if_neg (show ¬ ar (K i) = 0 by omega), if_pos k1]
      have hql := hq
      rw [et, List.length_append, List.length_append, own_len, own_len] at hql
      have ej : ∀ j, i < j → bgn K F T (f + 1) i l j = bgn K F T f (i + 1) (l + (opT K F T i).length) j ∧ enn K F T (f + 1) i l j = enn K F T f (i + 1) (l + (opT K F T i).length) j := fun j hj => by
        have zz : ar (K i) = 1 ∨ j < eN K (i + 1) := Or.inl k1
        have ne : ¬ j = i := by omega
        rw [eb, ee, if_neg ne, if_neg ne, if_pos zz, if_pos zz]; exact ⟨rfl, rfl⟩
      have inn : ∀ j, i < j → j < e → l + (opT K F T i).length ≤ bgn K F T (f + 1) i l j ∧ enn K F T (f + 1) i l j ≤ l + (opT K F T i).length + (tx K F T f (i + 1)).length := fun j a b => by
        rw [(ej j a).1, (ej j a).2]
        exact bg_in f g1 (by omega) _ j (by omega) b
      by_cases s1 : q < (opT K F T i).length
      · obtain ⟨x, x1, x2⟩ := own_get (o := i) s1
        exact mine x (by rw [et, ap_l (by rw [List.length_append, own_len]; omega), ap_l (by rw [own_len]; exact s1)]; exact x1) x2 (fun j a b => by have := inn j a b; omega)
      · by_cases s2 : q < (opT K F T i).length + (tx K F T f (i + 1)).length
        · obtain ⟨x, x1, x2, x3, x4, x5, x6⟩ := ih g1 (by omega) (l + (opT K F T i).length) (q - (opT K F T i).length) (by omega)
          have eq : l + (opT K F T i).length + (q - (opT K F T i).length) = l + q := by omega
          rw [eq] at x4 x5 x6
          refine ⟨x, ?_, by omega, x3, ?_, ?_, fun j a b => ?_⟩
          · rw [et, ap_l (by rw [List.length_append, own_len]; omega), ap_r (by rw [own_len]; omega), own_len]; exact x1
          · rw [(ej x.2 (by omega)).1]; exact x4
          · rw [(ej x.2 (by omega)).2]; exact x5
          · rw [(ej j (by omega)).1, (ej j (by omega)).2]; exact x6 j a b
        · obtain ⟨x, x1, x2⟩ := own_get (o := i) (M := clT K F T i) (q := q - ((opT K F T i).length + (tx K F T f (i + 1)).length)) (by omega)
          exact mine x (by rw [et, ap_r (by rw [List.length_append, own_len]; omega), List.length_append, own_len]; exact x1) x2 (fun j a b => by have := inn j a b; omega)
    · have ed : eN K (i + 1) = d := eN_of (by omega) g1
      have et : tx K F T (f + 1) i = own i (opT K F T i) ++ tx K F T f (i + 1) ++ [(mdT K i, i)] ++ tx K F T f d ++ own i (clT K F T i) := by rw [ex, if_neg (show ¬ ar (K i) = 0 by omega), if_neg (show ¬ ar (K i) = 1 by omega), ed]
      have hmd : ([(mdT K i, i)] : Tp).length = 1 := rfl
      have l1 := tm_lt g1
      have l2 := tm_lt g2
      have hql := hq
      rw [et, List.length_append, List.length_append, List.length_append, List.length_append, own_len, own_len, hmd] at hql
      obtain ⟨a1, ha1⟩ : ∃ a, a = (opT K F T i).length := ⟨_, rfl⟩
      obtain ⟨a2, ha2⟩ : ∃ a, a = (tx K F T f (i + 1)).length := ⟨_, rfl⟩
      obtain ⟨a3, ha3⟩ : ∃ a, a = (tx K F T f d).length := ⟨_, rfl⟩
      have ej1 : ∀ j, i < j → j < d → bgn K F T (f + 1) i l j = bgn K F T f (i + 1) (l + a1) j ∧ enn K F T (f + 1) i l j = enn K F T f (i + 1) (l + a1) j := fun j hj hd => by
        have zz : ar (K i) = 1 ∨ j < eN K (i + 1) := Or.inr (by rw [ed]; exact hd)
        have ne : ¬ j = i := by omega
        rw [eb, ee, if_neg ne, if_neg ne, if_pos zz, if_pos zz, ha1]; exact ⟨rfl, rfl⟩
      have ej2 : ∀ j, d ≤ j → bgn K F T (f + 1) i l j = bgn K F T f d (l + a1 + a2 + 1) j ∧ enn K F T (f + 1) i l j = enn K F T f d (l + a1 + a2 + 1) j := fun j hd => by
        have zz : ¬ (ar (K i) = 1 ∨ j < eN K (i + 1)) := by rw [ed]; omega
        have ne : ¬ j = i := by omega
        rw [eb, ee, if_neg ne, if_neg ne, if_neg zz, if_neg zz, ha1, ha2, ed]; exact ⟨rfl, rfl⟩
      have in1 : ∀ j, i < j → j < d → l + a1 ≤ bgn K F T (f + 1) i l j ∧ enn K F T (f + 1) i l j ≤ l + a1 + a2 := fun j a b => by
        rw [(ej1 j a b).1, (ej1 j a b).2, ha2]
        exact bg_in f g1 (by omega) _ j (by omega) b
      have in2 : ∀ j, d ≤ j → j < e → l + a1 + a2 + 1 ≤ bgn K F T (f + 1) i l j ∧ enn K F T (f + 1) i l j ≤ l + a1 + a2 + 1 + a3 := fun j a b => by
        rw [(ej2 j a).1, (ej2 j a).2, ha3]
        exact bg_in f g2 (by omega) _ j a b
      rw [← ha1, ← ha2, ← ha3] at hql
      have z1 : (own i (opT K F T i)).length = a1 := by rw [own_len, ha1]
      have z2 : (own i (opT K F T i) ++ tx K F T f (i + 1)).length = a1 + a2 := by rw [List.length_append, z1, ha2]
      have z3 : (own i (opT K F T i) ++ tx K F T f (i + 1) ++ [(mdT K i, i)]).length = a1 + a2 + 1 := by rw [List.length_append, z2, hmd]
      have z4 : (own i (opT K F T i) ++ tx K F T f (i + 1) ++ [(mdT K i, i)] ++ tx K F T f d).length = a1 + a2 + 1 + a3 := by rw [List.length_append, z3, ha3]
      have other : (∀ j, i < j → j < e → ¬ (bgn K F T (f + 1) i l j ≤ l + q ∧ l + q < enn K F T (f + 1) i l j)) ↔ (∀ j, i < j → j < d → ¬ (bgn K F T (f + 1) i l j ≤ l + q ∧ l + q < enn K F T (f + 1) i l j)) ∧ ∀ j, d ≤ j → j < e → ¬ (bgn K F T (f + 1) i l j ≤ l + q ∧ l + q < enn K F T (f + 1) i l j) := by
        constructor
        · intro hh; exact ⟨fun j a b => hh j a (by omega), fun j a b => hh j (by omega) b⟩
        · rintro ⟨u, v⟩ j a b
          by_cases y : j < d
          · exact u j a y
          · exact v j (by omega) b
      by_cases s1 : q < a1
      · obtain ⟨x, x1, x2⟩ := own_get (o := i) (M := opT K F T i) (q := q) (by omega)
        exact mine x (by rw [et, ap_l (by omega), ap_l (by omega), ap_l (by omega), ap_l (by omega)]; exact x1) x2 (other.mpr ⟨fun j a b => by have := in1 j a b; omega, fun j a b => by have := in2 j a b; omega⟩)
      · by_cases s2 : q < a1 + a2
        · obtain ⟨x, x1, x2, x3, x4, x5, x6⟩ := ih g1 (by omega) (l + a1) (q - a1) (by omega)
          have eq : l + a1 + (q - a1) = l + q := by omega
          rw [eq] at x4 x5 x6
          refine ⟨x, ?_, by omega, by omega, ?_, ?_, fun j a b => ?_⟩
          · rw [et, ap_l (by omega), ap_l (by omega), ap_l (by omega), ap_r (by omega), z1]; exact x1
          · rw [(ej1 x.2 (by omega) x3).1]; exact x4
          · rw [(ej1 x.2 (by omega) x3).2]; exact x5
          · by_cases y : j < d
            · rw [(ej1 j (by omega) y).1, (ej1 j (by omega) y).2]; exact x6 j a y
            · have := in2 j (by omega) b; omega
        · by_cases s3 : q < a1 + a2 + 1
          · refine mine (mdT K i, i) ?_ rfl (other.mpr ⟨fun j a b => by have := in1 j a b; omega, fun j a b => by have := in2 j a b; omega⟩)
            rw [et, ap_l (by omega), ap_l (by omega), ap_r (by omega), z2, show q - (a1 + a2) = 0 by omega]
            rfl
          · by_cases s4 : q < a1 + a2 + 1 + a3
            · obtain ⟨x, x1, x2, x3, x4, x5, x6⟩ := ih g2 (by omega) (l + a1 + a2 + 1) (q - (a1 + a2 + 1)) (by omega)
              have eq : l + a1 + a2 + 1 + (q - (a1 + a2 + 1)) = l + q := by omega
              rw [eq] at x4 x5 x6
              refine ⟨x, ?_, by omega, x3, ?_, ?_, fun j a b => ?_⟩
              · rw [et, ap_l (by omega), ap_r (by omega), z3]; exact x1
              · rw [(ej2 x.2 x2).1]; exact x4
              · rw [(ej2 x.2 x2).2]; exact x5
              · rw [(ej2 j (by omega)).1, (ej2 j (by omega)).2]; exact x6 j a b
            · obtain ⟨x, x1, x2⟩ := own_get (o := i) (M := clT K F T i) (q := q - (a1 + a2 + 1 + a3)) (by omega)
              exact mine x (by rw [et, ap_r (by omega), z4]; exact x1) x2 (other.mpr ⟨fun j a b => by have := in1 j a b; omega, fun j a b => by have := in2 j a b; omega⟩)
end OWNER
