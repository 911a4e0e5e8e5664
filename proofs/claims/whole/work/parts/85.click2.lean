/-! click -/
def lst (P : Nat → Prop) [DecidablePred P] : Nat → Nat → Option Nat → Option Nat
  | 0, _, x => x
  | d + 1, k, x => lst P d (k + 1) (if P k then some k else x)
theorem lst_no {P : Nat → Prop} [DecidablePred P] : ∀ (d k : Nat) (x : Option Nat), (∀ j, k ≤ j → j < k + d → ¬ P j) → lst P d k x = x
  | 0, _, _, _ => rfl
  | d + 1, k, x, h => by
    show lst P d (k + 1) (if P k then some k else x) = x
    rw [if_neg (h k (by omega) (by omega)), lst_no d (k + 1) x (fun j a b => h j (by omega) (by omega))]
theorem lst_at {P : Nat → Prop} [DecidablePred P] {w : Nat} (hw : P w) : ∀ (d k : Nat) (x : Option Nat), k ≤ w → w < k + d → (∀ j, w < j → j < k + d → ¬ P j) → lst P d k x = some w
  | 0, k, x, a, b, _ => by omega
  | d + 1, k, x, a, b, h => by
    show lst P d (k + 1) (if P k then some k else x) = some w
    by_cases z : k = w
    · rw [z, if_pos hw, lst_no d (w + 1) (some w) (fun j a b => h j (by omega) (by omega))]
    · exact lst_at hw d (k + 1) _ (by omega) (by omega) (fun j a b => h j a (by omega))
theorem bgn_le {K F : Nat → Int32} {T : Nat → Int64} : ∀ (f : Nat) {i e : Nat}, tm K f i = some e → f ≤ 64 → ∀ (l j : Nat), i ≤ j → j < e → bgn K F T f i l j ≤ l + (tx K F T f i).length := by
  intro f
  induction f with
  | zero => intro i e h; cases h
  | succ f ih =>
    intro i e h hf l j h1 h2
    obtain ⟨f', ef, hc⟩ := tm_cases h
    obtain rfl : f = f' := by omega
    have ex : tx K F T (f + 1) i = if ar (K i) = 0 then own i (opT K F T i) else if ar (K i) = 1 then own i (opT K F T i) ++ tx K F T f (i + 1) ++ own i (clT K F T i) else own i (opT K F T i) ++ tx K F T f (i + 1) ++ [(mdT K i, i)] ++ tx K F T f (eN K (i + 1)) ++ own i (clT K F T i) := rfl
    have eb : bgn K F T (f + 1) i l j = if j = i then l else if ar (K i) = 1 ∨ j < eN K (i + 1) then bgn K F T f (i + 1) (l + (opT K F T i).length) j else bgn K F T f (eN K (i + 1)) (l + (opT K F T i).length + (tx K F T f (i + 1)).length + 1) j := rfl
    rw [eb]
    by_cases z : j = i
    · rw [if_pos z]; omega
    · rw [if_neg z, ex]
      rcases hc with ⟨q, e1⟩ | ⟨q, g1⟩ | ⟨q, d, g1, g2⟩
      · omega
      · have zz : ar (K i) = 1 ∨ j < eN K (i + 1) := Or.inl q
        rw [if_pos zz, if_neg (show ¬ ar (K i) = 0 by omega), if_pos q, List.length_append, List.length_append, own_len]
        have := ih g1 (by omega) (l + (opT K F T i).length) j (by omega) h2
        omega
      · have ed : eN K (i + 1) = d := eN_of (by omega) g1
        rw [if_neg (show ¬ ar (K i) = 0 by omega), if_neg (show ¬ ar (K i) = 1 by omega), ed, List.length_append, List.length_append, List.length_append, List.length_append, own_len]
        have hmd : ([(mdT K i, i)] : Tp).length = 1 := rfl
        rw [hmd]
        by_cases y : j < d
        · have zz : ar (K i) = 1 ∨ j < d := Or.inr y
          rw [if_pos zz]
          have := ih g1 (by omega) (l + (opT K F T i).length) j (by omega) y
          omega
        · have zz : ¬ (ar (K i) = 1 ∨ j < d) := by omega
          rw [if_neg zz]
          have := ih g2 (by omega) (l + (opT K F T i).length + (tx K F T f (i + 1)).length + 1) j (by omega) h2
          omega
section CLICK2
variable {TY : TYt} {σ : Mem} {n c p kp pb ch : Nat} {K F : Nat → Int32} {T : Nat → Int64} {Hs Ps : Nat → Pg}
abbrev Pc (b e : Nat → Int32) (v : Int32) : Nat → Prop := fun j => ¬ v < b j ∧ ¬ e j ≤ v
theorem s_innermost (hn : n ≤ 40) (hz : σ.1 (cP p) 4 = nI n) (v : Int32) : f_Pa_innermost p v σ = some (oI (lst (Pc (σ.1 9) (σ.1 10) v) n 0 none), σ) := by
  have key : ∀ (d k : Nat) (x : Option Nat), k + d = n → loopF (fun (q : (Int32 × Int32 × Mem)) => f_Pa_innermost_L5 p v q.1 q.2.1 q.2.2) (d + 1) (oI x, nI k, σ) = some (oI (lst (Pc (σ.1 9) (σ.1 10) v) d k x), σ) := by
    intro d
    induction d with
    | zero =>
      intro k x hk
      obtain rfl : k = n := by omega
      refine lp_exit ?_
      show f_Pa_innermost_L5 p v (oI x) (nI k) σ = _
      unfold f_Pa_innermost_L5
      rw [hz, if_pos ((nIle (by omega) (by omega)).mpr (Nat.le_refl _))]
      rfl
    | succ d ih =>
      intro k x hk
      refine lp_step (b := (oI (if Pc (σ.1 9) (σ.1 10) v k then some k else x), nI (k + 1), σ)) ?_ (ih (k + 1) _ (by omega))
      show f_Pa_innermost_L5 p v (oI x) (nI k) σ = _
      unfold f_Pa_innermost_L5 f_Pa_innermost_J39
      rw [hz, if_neg (fun z => by have := (nIle (by omega) (by omega)).mp z; omega), gd_t (inb_nI (by omega) (by decide)), nI_cl (by omega), lt_q, gd_t (inb_nI (by omega) (by decide)), lt_q, nI_1]
      by_cases z1 : v < σ.1 9 k
      · rw [if_pos z1, if_neg (fun (y : Pc (σ.1 9) (σ.1 10) v k) => y.1 z1)]
      · by_cases z2 : σ.1 10 k ≤ v
        · rw [if_neg z1, if_pos z2, if_neg (fun (y : Pc (σ.1 9) (σ.1 10) v k) => y.2 z2)]
        · rw [if_neg z1, if_neg z2, if_pos (show Pc (σ.1 9) (σ.1 10) v k from ⟨z1, z2⟩)]
          rfl
  unfold f_Pa_innermost
  rw [lt_q, lt_q]
  exact lp_FU (key n 0 none (by omega)) (by omega)
theorem ok_click {k : Nat} (hk : k < 900) (hI : Inv TY PCp PMp k σ) (v : Int32) : Ok TY PCp PMp (k + 1) σ (f_Be_click v) (f_Mo_click v) := by
  obtain ⟨⟨n, c, K, F, T⟩, p, kp, pb, ch, Hs, Ps, hk2, h⟩ := id hI
  obtain ⟨σ1, a1, a2, a3, a4⟩ := IV_written h (by omega)
  have hn : n ≤ 40 := h.1.1.2.1
  have hc : c < n := h.1.1.2.2.1
  have hok : okK n K F T := h.1.1.2.2.2
  have h12 : tm K 12 0 = some n := h.1.1.1
  have hp := IV_p a2
  have ez : σ1.1 (cP p) 4 = nI n := a2.2.1.2.2.2.1.1
  have ni := s_innermost (p := p) hn ez v
  have ln : (tx K F T 12 0).length ≤ 44 * (n - 0) := tx_len hok 12 h12 (by decide) (Nat.le_refl _)
  obtain ⟨len, hlen⟩ : ∃ x, x = (tx K F T 12 0).length := ⟨_, rfl⟩
  have bd : ∀ j, j < n → bgn K F T 12 0 0 j ≤ len → enn K F T 12 0 0 j ≤ len := fun j hj _ => by
    have := (bg_in (F := F) (T := T) 12 h12 (by decide) 0 j (Nat.zero_le _) hj).2
    omega
  have en2 : ∀ j, j < n → enn K F T 12 0 0 j ≤ len := fun j hj => by
    have := (bg_in (F := F) (T := T) 12 h12 (by decide) 0 j (Nat.zero_le _) hj).2
    omega
  have no : lst (Pc (σ1.1 9) (σ1.1 10) v) n 0 none = none → (∀ σ2, PMp n K F T (σ2.1 27) (σ2.1 28) (σ2.1 29) (σ2.1 15 17) → f_Mo_spell σ1 = some ((), σ2) → f_Mo_click v σ1 = some (0, σ2)) → Ok TY PCp PMp (k + 1) σ (f_Be_click v) (f_Mo_click v) := fun e0 hr => by
    rw [e0] at ni
    obtain ⟨σ2, b1, b2, b3, b4, b5, b6⟩ := IV_spell a2 (by omega) a3
    refine ⟨0, σ1, σ2, ?_, hr σ2 b3 b1, _, _, _, _, _, _, _, (by omega : ch ≤ k + 1), b2⟩
    unfold f_Be_click
    rw [a1, bn_q, IV_present a2, bn_q, gd_t hp, ni, bn_q, show oI none = -1 from rfl, s_moveNo, bn_q, gd_t isB_0]
  by_cases q : v < 0
  · refine no (lst_no n 0 none (fun j _ hj => fun y => ?_)) (fun σ2 b3 b1 => ?_)
    · have hjn : j < n := by omega
      have y1 := y.1
      rw [(a4.2 j hjn).1] at y1
      exact y1 (Int32.lt_of_lt_of_le q (nI_pos' (by
        have b1 := (bg_in (F := F) (T := T) 12 h12 (by decide) 0 j (Nat.zero_le _) hjn)
        have := bgn_le (F := F) (T := T) 12 h12 (by decide) 0 j (Nat.zero_le _) hjn
        omega)))
    · unfold f_Mo_click f_Mo_click_J16
      rw [b1, bn_q, if_pos q]
  · obtain ⟨m, hm, rfl⟩ := nI_of q
    have Pm : ∀ j, j < n → (Pc (σ1.1 9) (σ1.1 10) (nI m) j ↔ bgn K F T 12 0 0 j ≤ m ∧ m < enn K F T 12 0 0 j) := fun j hj => by
      have b1 := bgn_le (F := F) (T := T) 12 h12 (by decide) 0 j (Nat.zero_le _) hj
      have b2 := en2 j hj
      show ¬ nI m < σ1.1 9 j ∧ ¬ σ1.1 10 j ≤ nI m ↔ _
      rw [(a4.2 j hj).1, (a4.2 j hj).2, nIlt hm (by omega), nIle (by omega) hm]
      omega
    by_cases q2 : m < len
    · obtain ⟨x, x1, x2, x3, x4, x5, x6⟩ := owner (F := F) (T := T) 12 h12 (by decide) 0 m (by omega)
      rw [Nat.zero_add] at x4 x5 x6
      have el := lst_at (P := Pc (σ1.1 9) (σ1.1 10) (nI m)) ((Pm x.2 x3).mpr ⟨x4, x5⟩) n 0 none (Nat.zero_le _) (by omega) (fun j a b => fun y => x6 j a (by omega) ((Pm j (by omega)).mp y))
      rw [el] at ni
      obtain ⟨σ2, b1, b2, b3, b4⟩ := move_both a2 (by omega) a3 x3
      refine ⟨1, sI σ1 (cP p) 5 (nI x.2), sI σ2 15 1 (nI x.2), ?_, ?_, _, _, _, _, _, _, _, (by omega : ch ≤ k + 1), b4⟩
      · unfold f_Be_click
        rw [a1, bn_q, IV_present a2, bn_q, gd_t hp, ni, bn_q, show oI (some x.2) = nI x.2 from rfl, s_moveTo (IV_present a2) (of_decide_eq_true hp) (by omega), bn_q, gd_t isB_1]
      · unfold f_Mo_click
        rw [b1, bn_q, if_neg q, b3.1, if_pos ((nIlt hm (by omega)).mpr (by omega)), gd_t (inb_nI (by omega) (by decide)), nI_cl hm, (b3.2.1 m x x1).2, lt_q]
    · refine no (lst_no n 0 none (fun j _ hj => fun y => ?_)) (fun σ2 b3 b1 => ?_)
      · have := (Pm j (by omega)).mp y
        have := en2 j (by omega)
        omega
      · unfold f_Mo_click f_Mo_click_J16
        rw [b1, bn_q, if_neg q, b3.1, if_neg (fun y => by have := (nIlt hm (by omega)).mp y; omega)]
end CLICK2
