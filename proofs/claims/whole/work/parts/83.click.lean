/-! hole, click -/
theorem oI_0 (x : Option Nat) (h : ∀ j, x = some j → j < 100) : 0 ≤ oI x ↔ x.isSome := by
  cases x with
  | none => exact ⟨fun z => absurd z (by decide), fun z => absurd z (by decide)⟩
  | some j => exact ⟨fun _ => rfl, fun _ => nI_pos' (by have := h j rfl; omega)⟩
/-- the first hole behind the cursor, else the first: as the class looks for it -/
def hC (K : Nat → Int32) (G : Nat → Prop) [DecidablePred G] : Nat → Nat → Option Nat → Option Nat
  | 0, _, x => x
  | d + 1, k, x => if K k = 0 then (if G k then some k else hC K G d (k + 1) (if x.isSome then x else some k)) else hC K G d (k + 1) x
/-- and as the reference does -/
def hM (K : Nat → Int32) (G : Nat → Prop) [DecidablePred G] : Nat → Nat → Option Nat → Option Nat → Option Nat
  | 0, _, x, y => if x.isSome then (if y.isSome then y else x) else none
  | d + 1, k, x, y => if K k = 0 then hM K G d (k + 1) (if x.isSome then x else some k) (if y.isSome then y else if G k then some k else none) else hM K G d (k + 1) x y
section HOLES
variable {K : Nat → Int32} {G : Nat → Prop}
theorem hM_done [DecidablePred G] : ∀ (d k : Nat) (x y : Option Nat), x.isSome → y.isSome → hM K G d k x y = y
  | 0, k, x, y, hx, hy => by
    show (if x.isSome then (if y.isSome then y else x) else none) = y
    rw [if_pos hx, if_pos hy]
  | d + 1, k, x, y, hx, hy => by
    show (if K k = 0 then hM K G d (k + 1) (if x.isSome then x else some k) (if y.isSome then y else if G k then some k else none) else hM K G d (k + 1) x y) = y
    rw [if_pos hx, if_pos hy, hM_done d (k + 1) x y hx hy]
    exact ite_self _
theorem hM_hC [DecidablePred G] : ∀ (d k : Nat) (x : Option Nat), hM K G d k x none = hC K G d k x
  | 0, k, x => by
    show (if x.isSome then (if (none : Option Nat).isSome then none else x) else none) = x
    cases x <;> rfl
  | d + 1, k, x => by
    show (if K k = 0 then hM K G d (k + 1) (if x.isSome then x else some k) (if (none : Option Nat).isSome then none else if G k then some k else none) else hM K G d (k + 1) x none) = (if K k = 0 then (if G k then some k else hC K G d (k + 1) (if x.isSome then x else some k)) else hC K G d (k + 1) x)
    rw [hM_hC d (k + 1) x, if_neg (show ¬ ((none : Option Nat).isSome = true) from fun z => by cases z)]
    by_cases g : G k
    · rw [if_pos g, if_pos g, hM_done d (k + 1) _ _ (by cases x <;> rfl) rfl]
    · rw [if_neg g, if_neg g, hM_hC d (k + 1) _]
theorem hC_lt [DecidablePred G] {n : Nat} : ∀ (d k : Nat) (x : Option Nat), k + d = n → (∀ j, x = some j → j < n) → ∀ j, hC K G d k x = some j → j < n
  | 0, k, x, _, hx, j, h => hx j h
  | d + 1, k, x, hk, hx, j, h => by
    have e : hC K G (d + 1) k x = (if K k = 0 then (if G k then some k else hC K G d (k + 1) (if x.isSome then x else some k)) else hC K G d (k + 1) x) := rfl
    rw [e] at h
    by_cases z : K k = 0
    · rw [if_pos z] at h
      by_cases g : G k
      · rw [if_pos g] at h
        have := Option.some.inj h
        omega
      · rw [if_neg g] at h
        refine hC_lt d (k + 1) _ (by omega) (fun q hq => ?_) j h
        cases x with
        | none => have := Option.some.inj hq; omega
        | some y => exact hx q hq
    · rw [if_neg z] at h
      exact hC_lt d (k + 1) x (by omega) hx j h
end HOLES
section CLICK
variable {TY : TYt} {σ : Mem} {n c p kp pb ch : Nat} {K F : Nat → Int32} {T : Nat → Int64} {Hs Ps : Nat → Pg}
abbrev Gb (B : Nat → Int32) (c : Nat) : Nat → Prop := fun k => ¬ B k ≤ B c
theorem s_nextHole (hn : n ≤ 40) (hz : σ.1 (cP p) 4 = nI n) (hc5 : σ.1 (cP p) 5 = nI c) (hc : c < n) (hR : ∀ j, j < n → σ.1 (cPk p) j = K j) : f_Pa_nextHole p σ = some (oI (hC K (Gb (σ.1 9) c) n 0 none), σ) := by
  have key : ∀ (d k : Nat) (x : Option Nat), k + d = n → (∀ j, x = some j → j < n) → loopF (fun (q : (Int32 × Int32 × Mem)) => f_Pa_nextHole_L4 p q.1 q.2.1 q.2.2) (d + 1) (oI x, nI k, σ) = some (oI (hC K (Gb (σ.1 9) c) d k x), σ) := by
    intro d
    induction d with
    | zero =>
      intro k x hk hx
      obtain rfl : k = n := by omega
      refine lp_exit ?_
      show f_Pa_nextHole_L4 p (oI x) (nI k) σ = _
      unfold f_Pa_nextHole_L4
      rw [hz, if_pos ((nIle (by omega) (by omega)).mpr (Nat.le_refl _))]
      rfl
    | succ d ih =>
      intro k x hk hx
      have e : hC K (Gb (σ.1 9) c) (d + 1) k x = (if K k = 0 then (if Gb (σ.1 9) c k then some k else hC K (Gb (σ.1 9) c) d (k + 1) (if x.isSome then x else some k)) else hC K (Gb (σ.1 9) c) d (k + 1) x) := rfl
      have un : f_Pa_nextHole_L4 p (oI x) (nI k) σ = (if K k = 0 then (if σ.1 9 k ≤ σ.1 9 c then (if 0 ≤ oI x then some (.inl (oI x, nI (k + 1), σ)) else some (.inl (nI k, nI (k + 1), σ))) else some (.inr (nI k, σ))) else some (.inl (oI x, nI (k + 1), σ))) := by
        unfold f_Pa_nextHole_L4 f_Pa_nextHole_J50 f_Pa_nextHole_J51
        rw [hz, if_neg (fun z => by have := (nIle (by omega) (by omega)).mp z; omega), gd_t (inb_nI (by omega) (by decide)), nI_cl (by omega), hR k (by omega), gd_t (inb_nI (by omega) (by decide)), hc5, gd_t (inb_nI (by omega) (by decide)), nI_cl (by omega), lt_q, lt_q, nI_1]
        rfl
      rw [e]
      by_cases z : K k = 0
      · rw [if_pos z] at un ⊢
        by_cases g : σ.1 9 k ≤ σ.1 9 c
        · rw [if_pos g] at un
          rw [if_neg (show ¬ Gb (σ.1 9) c k from fun y => y g)]
          by_cases s : x.isSome
          · rw [if_pos ((oI_0 x (fun j hj => by have := hx j hj; omega)).mpr s)] at un
            rw [if_pos s]
            exact lp_step (b := (_, _, _)) un (ih (k + 1) x (by omega) hx)
          · rw [if_neg (fun y => s ((oI_0 x (fun j hj => by have := hx j hj; omega)).mp y))] at un
            rw [if_neg s]
            exact lp_step (b := (_, _, _)) un (ih (k + 1) (some k) (by omega) (fun j hj => by have := Option.some.inj hj; omega))
        · rw [if_neg g] at un
          rw [if_pos (show Gb (σ.1 9) c k from g)]
          exact lp_exit un
      · rw [if_neg z] at un ⊢
        exact lp_step (b := (_, _, _)) un (ih (k + 1) x (by omega) hx)
  unfold f_Pa_nextHole
  rw [lt_q, lt_q]
  exact lp_FU (key n 0 none (by omega) (fun j hj => by cases hj)) (by omega)
def hEnd (o : Option Nat) (σ : Mem) : Int32 × Mem := match o with
  | none => (0, σ)
  | some j => (1, sI σ 15 1 (nI j))
theorem s_Mo_holes (hn : n ≤ 40) (hz : σ.1 15 0 = nI n) (hc5 : σ.1 15 1 = nI c) (hc : c < n) (hR : ∀ j, j < n → σ.1 16 j = K j) : loopF (fun (q : (Int32 × Int32 × Int32 × Mem)) => f_Mo_hole_L10 q.1 q.2.1 q.2.2.1 q.2.2.2) FU (-1, -1, 0, σ) = some (hEnd (hM K (Gb (σ.1 29) c) n 0 none none) σ) := by
  have key : ∀ (d k : Nat) (x y : Option Nat), k + d = n → (∀ j, x = some j → j < n) → (∀ j, y = some j → j < n) → loopF (fun (q : (Int32 × Int32 × Int32 × Mem)) => f_Mo_hole_L10 q.1 q.2.1 q.2.2.1 q.2.2.2) (d + 1) (oI x, oI y, nI k, σ) = some (hEnd (hM K (Gb (σ.1 29) c) d k x y) σ) := by
    intro d
    induction d with
    | zero =>
      intro k x y hk hx hy
      obtain rfl : k = n := by omega
      refine lp_exit ?_
      show f_Mo_hole_L10 (oI x) (oI y) (nI k) σ = some (.inr (hEnd (if x.isSome then (if y.isSome then y else x) else none) σ))
      have ox := oI_0 x (fun j hj => by have := hx j hj; omega)
      have oy := oI_0 y (fun j hj => by have := hy j hj; omega)
      unfold f_Mo_hole_L10 f_Mo_hole_J104
      rw [hz, if_pos ((nIle (by omega) (by omega)).mpr (Nat.le_refl _))]
      cases x with
      | none => rw [if_neg (fun z => by cases ox.mp z)]; rfl
      | some a =>
        rw [if_pos (ox.mpr rfl)]
        cases y with
        | none => rw [if_neg (fun z => by cases oy.mp z)]; rfl
        | some b => rw [if_pos (oy.mpr rfl)]; rfl
    | succ d ih =>
      intro k x y hk hx hy
      have ox := oI_0 x (fun j hj => by have := hx j hj; omega)
      have oy := oI_0 y (fun j hj => by have := hy j hj; omega)
      have e : hM K (Gb (σ.1 29) c) (d + 1) k x y = (if K k = 0 then hM K (Gb (σ.1 29) c) d (k + 1) (if x.isSome then x else some k) (if y.isSome then y else if Gb (σ.1 29) c k then some k else none) else hM K (Gb (σ.1 29) c) d (k + 1) x y) := rfl
      have J48 : ∀ u : Int32, f_Mo_hole_J48 (oI x) (oI y) (nI k) 1 u σ = some (.inl (u, oI (if y.isSome then y else if Gb (σ.1 29) c k then some k else none), nI (k + 1), σ)) := fun u => by
        unfold f_Mo_hole_J48 f_Mo_hole_J80 f_Mo_hole_J81
        rw [if_neg (by decide), gd_t (inb_nI (by omega) (by decide)), hc5, gd_t (inb_nI (by omega) (by decide)), nI_cl (by omega), nI_cl (by omega), lt_q, lt_q, nI_1]
        cases y with
        | some b => rw [if_pos (oy.mpr rfl)]; rfl
        | none =>
          rw [if_neg (fun z => by cases oy.mp z), if_neg (show ¬ ((none : Option Nat).isSome = true) from fun z => by cases z)]
          by_cases g : σ.1 29 k ≤ σ.1 29 c
          · rw [if_pos g, if_neg (show ¬ Gb (σ.1 29) c k from fun y => y g)]
          · rw [if_neg g, if_pos (show Gb (σ.1 29) c k from g)]; rfl
      rw [e]
      by_cases z : K k = 0
      · rw [if_pos z]
        have un : f_Mo_hole_L10 (oI x) (oI y) (nI k) σ = some (.inl (oI (if x.isSome then x else some k), oI (if y.isSome then y else if Gb (σ.1 29) c k then some k else none), nI (k + 1), σ)) := by
          unfold f_Mo_hole_L10 f_Mo_hole_J32 f_Mo_hole_J47
          rw [hz, if_neg (fun z => by have := (nIle (by omega) (by omega)).mp z; omega), gd_t (inb_nI (by omega) (by decide)), nI_cl (by omega), hR k (by omega), if_pos z, if_neg (by decide), J48, J48]
          cases x with
          | none => rw [if_neg (fun z => by cases ox.mp z)]; rfl
          | some a => rw [if_pos (ox.mpr rfl)]; rfl
        refine lp_step (b := (_, _, _, _)) un (ih (k + 1) _ _ (by omega) (fun j hj => ?_) (fun j hj => ?_))
        · cases x with
          | none => have := Option.some.inj hj; omega
          | some a => exact hx j hj
        · cases y with
          | some a => exact hy j hj
          | none =>
            rw [if_neg (show ¬ ((none : Option Nat).isSome = true) from fun z => by cases z)] at hj
            by_cases g : Gb (σ.1 29) c k
            · rw [if_pos g] at hj; have := Option.some.inj hj; omega
            · rw [if_neg g] at hj; cases hj
      · rw [if_neg z]
        have un : f_Mo_hole_L10 (oI x) (oI y) (nI k) σ = some (.inl (oI x, oI y, nI (k + 1), σ)) := by
          unfold f_Mo_hole_L10 f_Mo_hole_J32 f_Mo_hole_J47 f_Mo_hole_J48 f_Mo_hole_J80 f_Mo_hole_J81
          rw [hz, if_neg (fun z => by have := (nIle (by omega) (by omega)).mp z; omega), gd_t (inb_nI (by omega) (by decide)), nI_cl (by omega), hR k (by omega), if_neg z, if_pos rfl, if_pos rfl, lt_q, nI_1]
        exact lp_step (b := (_, _, _, _)) un (ih (k + 1) x y (by omega) hx hy)
  exact lp_FU (key n 0 none none (by omega) (fun j hj => by cases hj) (fun j hj => by cases hj)) (by omega)
theorem hC_G {G G' : Nat → Prop} [DecidablePred G] [DecidablePred G'] {n : Nat} : ∀ (d k : Nat) (x : Option Nat), k + d ≤ n → (∀ j, j < n → (G j ↔ G' j)) → hC K G d k x = hC K G' d k x
  | 0, k, x, _, _ => rfl
  | d + 1, k, x, hk, h => by
    show (if K k = 0 then (if G k then some k else hC K G d (k + 1) (if x.isSome then x else some k)) else hC K G d (k + 1) x) = (if K k = 0 then (if G' k then some k else hC K G' d (k + 1) (if x.isSome then x else some k)) else hC K G' d (k + 1) x)
    rw [hC_G d (k + 1) _ (by omega) h, hC_G d (k + 1) _ (by omega) h]
    by_cases g : G k
    · rw [if_pos g, if_pos ((h k (by omega)).mp g)]
    · rw [if_neg g, if_neg (fun y => g ((h k (by omega)).mpr y))]
theorem isB_1 : isB 1 = true := by decide
theorem isB_0 : isB 0 = true := by decide
theorem move_both (h : IV TY PCp PMp σ (n, c, K, F, T) p kp pb ch Hs Ps) (hch : ch ≤ 1000) (hv : σ.1 7 4 = nI ch) {j : Nat} (hj : j < n) : ∃ σ2, f_Mo_spell (sI σ (cP p) 5 (nI j)) = some ((), σ2) ∧ atM σ2 (n, c, K, F, T) ∧ PMp n K F T (σ2.1 27) (σ2.1 28) (σ2.1 29) (σ2.1 15 17) ∧ IV TY PCp PMp (sI σ2 15 1 (nI j)) (n, j, K, F, T) p kp pb ch Hs Ps := by
  obtain ⟨h1, h2, h3, h4, h5, h6⟩ := id h
  obtain ⟨σ1, e1⟩ : ∃ s, s = sI σ (cP p) 5 (nI j) := ⟨_, rfl⟩
  have f1 : fr (fun c => 44 ≤ c) σ σ1 := by rw [e1]; exact fr_rI _ _ (by unfold cP; omega)
  have g1 : ∀ c, c < 44 → σ1.1 c = σ.1 c ∧ σ1.2 c = σ.2 c := fun c hc => f1 c (by omega)
  have C1 : CV σ1 (n, j, K, F, T) p kp pb ch Hs Ps := by rw [e1]; exact CV_move h2 j
  have M1 : MV σ1 (n, c, K, F, T) kp pb Hs Ps := MV_fr h3 f1 (fun c hc => by unfold mE at hc; omega)
  have g15 : σ1.1 15 = σ.1 15 := (g1 15 (by decide)).1
  have TP : ∀ σ2, f_Mo_spell σ1 = some ((), σ2) → fr mSp σ1 σ2 → (∀ q, q ≠ 16 → q ≠ 17 → σ2.1 15 q = σ1.1 15 q) → PMp n K F T (σ2.1 27) (σ2.1 28) (σ2.1 29) (σ2.1 15 17) → σ2.1 15 16 = 1 → ∃ σ2, f_Mo_spell σ1 = some ((), σ2) ∧ atM σ2 (n, c, K, F, T) ∧ PMp n K F T (σ2.1 27) (σ2.1 28) (σ2.1 29) (σ2.1 15 17) ∧ IV TY PCp PMp (sI σ2 15 1 (nI j)) (n, j, K, F, T) p kp pb ch Hs Ps := fun σ2 b1 a4 a6 hM a5 => by
    have g : ∀ c, c < 15 ∨ 16 ≤ c ∧ c < 27 ∨ 32 < c → σ2.1 c = σ1.1 c ∧ σ2.2 c = σ1.2 c := fun c hc => a4 c (by unfold mSp; omega)
    have M2 : MV σ2 (n, c, K, F, T) kp pb Hs Ps := MV_15 M1 a4 (fun c x y => by unfold mSp; omega) (fun q hq => a6 q (by omega) (by omega))
    have C2 : CV σ2 (n, j, K, F, T) p kp pb ch Hs Ps := CV_fr C1 a4 (fun c hc => by unfold cE at hc; unfold mSp; omega)
    obtain ⟨σ3, e3⟩ : ∃ s, s = sI σ2 15 1 (nI j) := ⟨_, rfl⟩
    have f3 : fr (fun c => c = 15) σ2 σ3 := by rw [e3]; exact fr_rI _ _ rfl
    have g3 : ∀ c, c ≠ 15 → σ3.1 c = σ2.1 c ∧ σ3.2 c = σ2.2 c := fun c hc => f3 c hc
    have c15 : ∀ q, q ≠ 1 → σ3.1 15 q = σ2.1 15 q := fun q hq => by rw [e3, rI_at, pk_un hq]
    have to : ∀ c, c < 15 ∨ 16 ≤ c ∧ c < 27 → σ3.1 c = σ.1 c ∧ σ3.2 c = σ.2 c := fun c hc => by
      rw [(g3 c (by omega)).1, (g3 c (by omega)).2, (g c (by omega)).1, (g c (by omega)).2, (g1 c (by omega)).1, (g1 c (by omega)).2]; exact ⟨rfl, rfl⟩
    have to15 : ∀ q, q ≠ 1 → q ≠ 16 → q ≠ 17 → σ3.1 15 q = σ.1 15 q := fun q x y z => by rw [c15 q x, a6 q y z, g15]
    refine ⟨σ2, b1, M2.1, hM, ?_⟩
    rw [← e3]
    refine ⟨oks_move h1 hj, CV_fr C2 f3 (fun c hc => by unfold cE at hc; omega), by rw [e3]; exact MV_move M2 j, ?_, ?_, ?_⟩
    · exact TyI_fr h4 j (by rw [(to 3 (by decide)).1]) (to 4 (by decide)).2 (to 5 (by decide)).2 (to 6 (by decide)).1 (to 24 (by decide)).2 (to 25 (by decide)).2 (to 26 (by decide)).1 (to15 12 (by decide) (by decide) (by decide))
    · rcases h5 with ⟨q1, q2⟩ | ⟨q1, q2, q3⟩
      · exact absurd hv (q1 ch (Nat.le_refl _) hch)
      · refine Or.inr ⟨by rw [(to 7 (by decide)).1]; exact q1, by rw [(to 8 (by decide)).2, (to 9 (by decide)).1, (to 10 (by decide)).1]; exact q2, Or.inr ⟨by rw [c15 16 (by decide)]; exact a5, ?_⟩⟩
        rw [(g3 27 (by decide)).1, (g3 28 (by decide)).1, (g3 29 (by decide)).1, c15 17 (by decide)]; exact hM
    · exact ⟨by rw [(to 11 (by decide)).1, to15 25 (by decide) (by decide) (by decide)]; exact h6.1, by rw [(to 11 (by decide)).1, to15 24 (by decide) (by decide) (by decide)]; exact h6.2⟩
  rw [← e1]
  rcases h5 with ⟨q1, q2⟩ | ⟨q1, q2, q3⟩
  · exact absurd hv (q1 ch (Nat.le_refl _) hch)
  rcases q3 with q3 | ⟨q3, q4⟩
  · obtain ⟨σ2, a1, a2, a3, a4, a5, a6⟩ := s_spell h1.1.2.1 h1.1.2.2.2 h1.1.1 (σ := σ1) ⟨M1.1.1, M1.1.2.2⟩ (by rw [g15]; exact q3)
    exact TP σ2 a1 a4 a6 ⟨a2.1, a2.2, a3⟩ a5
  · refine TP σ1 ?_ (fr_rf _ _) (fun _ _ _ => rfl) ?_ (by rw [g15]; exact q3)
    · unfold f_Mo_spell
      rw [g15, q3, if_neg (by decide)]
    · rw [(g1 27 (by decide)).1, (g1 28 (by decide)).1, (g1 29 (by decide)).1, g15]; exact q4
theorem ok_hole {k : Nat} (hk : k < 900) (hI : Inv TY PCp PMp k σ) : Ok TY PCp PMp (k + 1) σ f_Be_hole f_Mo_hole := by
  obtain ⟨⟨n, c, K, F, T⟩, p, kp, pb, ch, Hs, Ps, hk2, h⟩ := id hI
  obtain ⟨σ1, a1, a2, a3, a4⟩ := IV_written h (by omega)
  have hn : n ≤ 40 := h.1.1.2.1
  have hc : c < n := h.1.1.2.2.1
  have hp := IV_p a2
  have ec : σ1.1 (cP p) 5 = nI c := a2.2.1.2.2.2.1.2.1
  have ez : σ1.1 (cP p) 4 = nI n := a2.2.1.2.2.2.1.1
  have eK : ∀ j, j < n → σ1.1 (cPk p) j = K j := fun j hj => (a2.2.1.2.2.2.1.2.2 j hj).1
  have nh := s_nextHole hn ez ec hc eK
  obtain ⟨o, ho⟩ : ∃ o, o = hC K (Gb (σ1.1 9) c) n 0 none := ⟨_, rfl⟩
  rw [← ho] at nh
  cases o with
  | none =>
    obtain ⟨σ2, b1, b2, b3, b4, b5, b6⟩ := IV_spell a2 (by omega) a3
    have em : σ2.1 15 1 = nI c := b2.2.2.1.1.2.1
    have en : σ2.1 15 0 = nI n := b2.2.2.1.1.1
    have eM : ∀ j, j < n → σ2.1 16 j = K j := fun j hj => (b2.2.2.1.1.2.2 j hj).1
    refine ⟨0, σ1, σ2, ?_, ?_, _, _, _, _, _, _, _, (by omega : ch ≤ k + 1), b2⟩
    · unfold f_Be_hole
      rw [a1, bn_q, IV_present a2, bn_q, gd_t hp, nh, bn_q, show oI none = -1 from rfl, s_moveNo, bn_q, gd_t isB_0]
    · unfold f_Mo_hole
      rw [b1, bn_q, lt_q, lt_q, lt_q, s_Mo_holes hn en em hc eM, hM_hC, hC_G (n := n) (G' := Gb (σ1.1 9) c) n 0 none (by omega) (fun j hj => by
        show ¬ σ2.1 29 j ≤ σ2.1 29 c ↔ ¬ σ1.1 9 j ≤ σ1.1 9 c
        rw [b3.2.2 j hj, b3.2.2 c hc, (a4.2 j hj).1, (a4.2 c hc).1]), ← ho]
      rfl
  | some j =>
    have hj : j < n := hC_lt n 0 none (by omega) (fun j hj => by cases hj) j ho.symm
    obtain ⟨σ2, b1, b2, b3, b4⟩ := move_both a2 (by omega) a3 hj
    refine ⟨1, sI σ1 (cP p) 5 (nI j), sI σ2 15 1 (nI j), ?_, ?_, _, _, _, _, _, _, _, (by omega : ch ≤ k + 1), b4⟩
    · unfold f_Be_hole
      rw [a1, bn_q, IV_present a2, bn_q, gd_t hp, nh, bn_q, show oI (some j) = nI j from rfl, s_moveTo (IV_present a2) (of_decide_eq_true hp) (by omega), bn_q, gd_t isB_1]
    · unfold f_Mo_hole
      rw [b1, bn_q, lt_q, lt_q, lt_q, s_Mo_holes hn b2.1 b2.2.1 hc (fun j hj => (b2.2.2 j hj).1), hM_hC, hC_G (n := n) (G' := Gb (σ1.1 9) c) n 0 none (by omega) (fun j hj => by
        show ¬ σ2.1 29 j ≤ σ2.1 29 c ↔ ¬ σ1.1 9 j ≤ σ1.1 9 c
        rw [b3.2.2 j hj, b3.2.2 c hc, (a4.2 j hj).1, (a4.2 c hc).1]), ← ho]
      rfl
end CLICK
