/-! RUNNING: what a term is worth. A value: sort (0 a number, 1 a function, 2 dark, 3 spent), figure, scope. A store: units, bound, names, values, scopes around. -/
abbrev Vl : Type := Nat × Int32 × Nat
abbrev Sr : Type := Nat × Nat × (Nat → Int32) × (Nat → Vl) × (Nat → Nat)
def tick (s : Sr) : Sr := (s.1 + 1, s.2)
def bnd (s : Sr) (x : Int32) (v : Vl) (o : Nat) : Sr := (s.1, s.2.1 + 1, upd s.2.2.1 (s.2.1 + 1) x, (fun j => if j = s.2.1 + 1 then v else s.2.2.2.1 j), fun j => if j = s.2.1 + 1 then o else s.2.2.2.2 j)
def lk (s : Sr) (x : Int32) : Nat → Nat → Vl
  | 0, _ => (2, 0, 0)
  | d + 1, c => if c = 0 then (2, 0, 0) else if s.2.2.1 c = x then s.2.2.2.1 c else lk s x d (s.2.2.2.2 c)
def addV (a b : Vl) : Vl := if a.1 = 0 ∧ b.1 = 0 then (0, a.2.1 + b.2.1, 0) else (2, 0, 0)
def ev2 (r : Nat → Nat → Sr → Vl × Sr) (x y c : Nat) (s : Sr) (fin : Vl → Vl → Sr → Vl × Sr) : Vl × Sr := if (r x c s).1.1 = 3 then r x c s else if (r y c (r x c s).2).1.1 = 3 then r y c (r x c s).2 else fin (r x c s).1 (r y c (r x c s).2).1 (r y c (r x c s).2).2
def fnA (v : Vl) : Nat := v.2.1.toNatClampNeg
def evC (F : Nat → Int32) (r : Nat → Nat → Sr → Vl × Sr) (a b : Vl) (s : Sr) : Vl × Sr := if a.1 = 1 then r (fnA a + 1) (s.2.1 + 1) (bnd s (F (fnA a)) b a.2.2) else ((2, 0, 0), s)
def evK (K F M : Nat → Int32) (r : Nat → Nat → Sr → Vl × Sr) (a c : Nat) (s : Sr) : Vl × Sr :=
  if ¬ M a = 0 then ((2, 0, 0), s) else if K a = 1 then ((0, F a, 0), s) else if K a = 2 then (lk s (F a) 12 c, s) else if K a = 3 then ev2 r (a + 1) (eN K (a + 1)) c s (fun x y t => (addV x y, t)) else if K a = 4 then ev2 r (a + 1) (eN K (a + 1)) c s (evC F r) else if K a = 5 then ((1, nI a, c), s) else if K a = 6 then r (a + 1) c s else ((2, 0, 0), s)
def ev (K F M : Nat → Int32) : Nat → Nat → Nat → Sr → Vl × Sr
  | 0, _, _, s => ((3, 0, 0), s)
  | g + 1, a, c, s => if s.1 = 400 then ((3, 0, 0), s) else evK K F M (ev K F M g) a c (tick s)
/-- a scope's chain ends within d steps -/
def Dp (o : Nat → Nat) : Nat → Nat → Prop
  | 0, c => c = 0
  | d + 1, c => c = 0 ∨ Dp o d (o c)
theorem Dp_0 (o : Nat → Nat) : ∀ d, Dp o d 0
  | 0 => rfl
  | _ + 1 => Or.inl rfl
theorem Dp_mono {o : Nat → Nat} : ∀ {d e c : Nat}, Dp o d c → d ≤ e → Dp o e c
  | 0, e, c, h, _ => by
    have : c = 0 := h
    rw [this]; exact Dp_0 o e
  | d + 1, 0, c, _, h => by omega
  | d + 1, e + 1, c, h, he => by
    rcases h with h | h
    · exact Or.inl h
    · exact Or.inr (Dp_mono h (by omega))
theorem Dp_ext {o o' : Nat → Nat} {B : Nat} (ho : ∀ j, 1 ≤ j → j ≤ B → o j < j) (he : ∀ j, j ≤ B → o' j = o j) : ∀ {d c : Nat}, c ≤ B → Dp o d c → Dp o' d c
  | 0, _, _, h => h
  | d + 1, c, hc, h => by
    by_cases z : c = 0
    · exact Or.inl z
    · rcases h with h | h
      · exact Or.inl h
      · refine Or.inr ?_
        rw [he c hc]
        exact Dp_ext ho he (by have := ho c (by omega) hc; omega) h
def vV (n : Nat) (K : Nat → Int32) (o : Nat → Nat) (B : Nat) (v : Vl) : Prop := v.1 = 0 ∨ (v.1 = 2 ∧ v.2.1 = 0) ∨ (v.1 = 1 ∧ ∃ a, a < n ∧ v.2.1 = nI a ∧ K a = 5 ∧ v.2.2 ≤ B ∧ Dp o (dp K a) v.2.2)
def sS (n : Nat) (K : Nat → Int32) (s : Sr) : Prop := ∀ j, 1 ≤ j → j ≤ s.2.1 → s.2.2.2.2 j < j ∧ vV n K s.2.2.2.2 s.2.1 (s.2.2.2.1 j)
def sX (s t : Sr) : Prop := s.2.1 ≤ t.2.1 ∧ ∀ j, j ≤ s.2.1 → t.2.2.2.2 j = s.2.2.2.2 j
theorem sX_rf (s : Sr) : sX s s := ⟨Nat.le_refl _, fun _ _ => rfl⟩
theorem sX_tr {s t u : Sr} (h1 : sX s t) (h2 : sX t u) : sX s u := ⟨by have := h1.1; have := h2.1; omega, fun j hj => by rw [h2.2 j (by have := h1.1; omega), h1.2 j hj]⟩
section EVAL
variable {n : Nat} {K F M : Nat → Int32}
theorem vV_ext {s t : Sr} {v : Vl} (hs : sS n K s) (hx : sX s t) (h : vV n K s.2.2.2.2 s.2.1 v) : vV n K t.2.2.2.2 t.2.1 v := by
  rcases h with h | h | ⟨h, a, h1, h2, h3, h4, h5⟩
  · exact Or.inl h
  · exact Or.inr (Or.inl h)
  · exact Or.inr (Or.inr ⟨h, a, h1, h2, h3, by have := hx.1; omega, Dp_ext (fun j a b => (hs j a b).1) hx.2 h4 h5⟩)
theorem lk_ok {s : Sr} (hs : sS n K s) (x : Int32) : ∀ (d c : Nat), c ≤ s.2.1 → vV n K s.2.2.2.2 s.2.1 (lk s x d c)
  | 0, _, _ => Or.inr (Or.inl ⟨rfl, rfl⟩)
  | d + 1, c, hc => by
    show vV n K s.2.2.2.2 s.2.1 (if c = 0 then (2, 0, 0) else if s.2.2.1 c = x then s.2.2.2.1 c else lk s x d (s.2.2.2.2 c))
    by_cases z : c = 0
    · rw [if_pos z]; exact Or.inr (Or.inl ⟨rfl, rfl⟩)
    · rw [if_neg z]
      have := hs c (by omega) hc
      by_cases y : s.2.2.1 c = x
      · rw [if_pos y]; exact this.2
      · rw [if_neg y]; exact lk_ok hs x d _ (by omega)
/-- what a run keeps -/
def eO (n : Nat) (K : Nat → Int32) (s : Sr) (R : Vl × Sr) : Prop := s.1 ≤ R.2.1 ∧ R.2.1 ≤ 400 ∧ (R.1.1 = 3 ∨ (sX s R.2 ∧ sS n K R.2 ∧ vV n K R.2.2.2.2.2 R.2.2.1 R.1 ∧ s.1 + 1 + 3 * (R.2.2.1 - s.2.1) ≤ R.2.1))
/-- before a run -/
def eI (n : Nat) (K : Nat → Int32) (a c : Nat) (s : Sr) : Prop := a < n ∧ c ≤ s.2.1 ∧ Dp s.2.2.2.2 (dp K a) c ∧ s.1 ≤ 400 ∧ 3 * s.2.1 ≤ s.1 ∧ sS n K s
/-- the second part can be run where the first was -/
theorem eI_next {a b c : Nat} {s : Sr} {R : Vl × Sr} (hI : eI n K a c s) (hR : eO n K s R) (h3 : ¬ R.1.1 = 3) (hb : b < n) (hd : dp K a ≤ dp K b) : eI n K b c R.2 ∧ sX s R.2 ∧ vV n K R.2.2.2.2.2 R.2.2.1 R.1 ∧ s.1 + 1 + 3 * (R.2.2.1 - s.2.1) ≤ R.2.1 := by
  obtain ⟨i1, i2, i3, i4, i5, i6⟩ := hI
  obtain ⟨r1, r2, r3⟩ := hR
  rcases r3 with r3 | ⟨x1, x2, x3, x4⟩
  · exact absurd r3 h3
  · have := x1.1
    exact ⟨⟨hb, by omega, Dp_mono (Dp_ext (fun j a b => (i6 j a b).1) x1.2 i2 i3) hd, r2, by omega, x2⟩, x1, x3, x4⟩
theorem bnd_ok {s : Sr} {x : Int32} {v w : Vl} (hn : n ≤ 40) (hwf : wf K n) (hs : sS n K s) (h4 : s.1 ≤ 400) (h3 : 3 * (s.2.1 + 1) ≤ s.1) (hv : vV n K s.2.2.2.2 s.2.1 v) (hw : vV n K s.2.2.2.2 s.2.1 w) (hw1 : w.1 = 1) : fnA w < n ∧ w.2.1 = nI (fnA w) ∧ K (fnA w) = 5 ∧ fnA w + 1 < n ∧ w.2.2 ≤ s.2.1 ∧ eI n K (fnA w + 1) (s.2.1 + 1) (bnd s x v w.2.2) ∧ sX s (bnd s x v w.2.2) := by
  rcases hw with hw | hw | ⟨_, b, b1, b2, b3, b4, b5⟩
  · omega
  · omega
  · have big : b < 2 ^ 31 := by omega
    have eb : fnA w = b := by unfold fnA; rw [b2, nI_cl big]
    have a1 : ar (K b) = 1 := by rw [b3]; rfl
    obtain ⟨w1, w2, w3⟩ := wf_ar1 hwf b1 a1
    have w4 := (wf_at hwf b1).2.2
    have sx : sX s (bnd s x v w.2.2) := ⟨by show s.2.1 ≤ s.2.1 + 1; omega, fun j hj => by
      show (if j = s.2.1 + 1 then w.2.2 else s.2.2.2.2 j) = _
      rw [if_neg (by omega)]⟩
    have oB : (bnd s x v w.2.2).2.2.2.2 (s.2.1 + 1) = w.2.2 := if_pos rfl
    rw [eb]
    refine ⟨b1, b2, b3, by omega, b4, ⟨by omega, Nat.le_refl _, ?_, h4, h3, fun j j1 j2 => ?_⟩, sx⟩
    · rw [w3]
      refine Or.inr ?_
      rw [oB]
      exact Dp_ext (fun j a b => (hs j a b).1) sx.2 b4 b5
    · by_cases z : j = s.2.1 + 1
      · rw [z]
        refine ⟨by rw [oB]; omega, ?_⟩
        have : (bnd s x v w.2.2).2.2.2.1 (s.2.1 + 1) = v := if_pos rfl
        rw [this]
        exact vV_ext hs sx hv
      · have e1 : (bnd s x v w.2.2).2.2.2.2 j = s.2.2.2.2 j := if_neg z
        have e2 : (bnd s x v w.2.2).2.2.2.1 j = s.2.2.2.1 j := if_neg z
        have j2' : j ≤ s.2.1 + 1 := j2
        rw [e1, e2]
        have := hs j j1 (by omega)
        exact ⟨this.1, vV_ext hs sx this.2⟩
/-- what is left when both parts were run -/
def FQ (n : Nat) (K : Nat → Int32) (t : Sr) (v w : Vl) (u : Sr) : Prop := sX t u ∧ sS n K u ∧ vV n K u.2.2.2.2 u.2.1 v ∧ vV n K u.2.2.2.2 u.2.1 w ∧ t.1 + 2 + 3 * (u.2.1 - t.2.1) ≤ u.1 ∧ u.1 ≤ 400 ∧ ¬ v.1 = 3 ∧ ¬ w.1 = 3
theorem ev2_ok {r : Nat → Nat → Sr → Vl × Sr} (hr : ∀ a c s, eI n K a c s → eO n K s (r a c s)) {x y c : Nat} {t : Sr} (hx : eI n K x c t) (hy : y < n) (hd : dp K x ≤ dp K y) : eO n K t (r x c t) ∧ (¬ (r x c t).1.1 = 3 → eI n K y c (r x c t).2 ∧ eO n K (r x c t).2 (r y c (r x c t).2) ∧ t.1 + 1 ≤ (r x c t).2.1 ∧ (¬ (r y c (r x c t).2).1.1 = 3 → FQ n K t (r x c t).1 (r y c (r x c t).2).1 (r y c (r x c t).2).2)) := by
  have o1 := hr x c t hx
  refine ⟨o1, fun q1 => ?_⟩
  obtain ⟨a1, a2, a3, a4⟩ := eI_next hx o1 q1 hy hd
  have o2 := hr y c _ a1
  refine ⟨a1, o2, by omega, fun q2 => ?_⟩
  obtain ⟨b1, b2, b3, b4⟩ := eI_next a1 o2 q2 hy (Nat.le_refl _)
  have := a2.1
  have := b2.1
  exact ⟨sX_tr a2 b2, b1.2.2.2.2.2, vV_ext a1.2.2.2.2.2 b2 a3, b3, by omega, b1.2.2.2.1, q1, q2⟩
theorem eI_tick {a c : Nat} {s : Sr} (h : eI n K a c s) (h4 : ¬ s.1 = 400) : eI n K a c (tick s) ∧ 3 * (tick s).2.1 + 1 ≤ (tick s).1 := by
  obtain ⟨i1, i2, i3, i4, i5, i6⟩ := h
  have e1 : (tick s).1 = s.1 + 1 := rfl
  have e2 : (tick s).2 = s.2 := rfl
  refine ⟨⟨i1, i2, i3, by omega, ?_, i6⟩, ?_⟩
  · show 3 * s.2.1 ≤ s.1 + 1; omega
  · show 3 * s.2.1 + 1 ≤ s.1 + 1; omega
theorem eI_part {a b c : Nat} {s : Sr} (h : eI n K a c s) (hb : b < n) (hd : dp K a ≤ dp K b) : eI n K b c s := ⟨hb, h.2.1, Dp_mono h.2.2.1 hd, h.2.2.2.1, h.2.2.2.2.1, h.2.2.2.2.2⟩
theorem ev_ok (hn : n ≤ 40) (hwf : wf K n) : ∀ (g a c : Nat) (s : Sr), eI n K a c s → eO n K s (ev K F M g a c s) := by
  intro g
  induction g with
  | zero => intro a c s h; exact ⟨Nat.le_refl _, h.2.2.2.1, Or.inl rfl⟩
  | succ g ih =>
    intro a c s h
    show eO n K s (if s.1 = 400 then ((3, 0, 0), s) else evK K F M (ev K F M g) a c (tick s))
    by_cases h4 : s.1 = 400
    · rw [if_pos h4]; exact ⟨Nat.le_refl _, h.2.2.2.1, Or.inl rfl⟩
    rw [if_neg h4]
    obtain ⟨ht, h31⟩ := eI_tick h h4
    have e1 : (tick s).1 = s.1 + 1 := rfl
    have e2 : (tick s).2 = s.2 := rfl
    have sxt : sX s (tick s) := sX_rf s
    have leaf : ∀ v : Vl, vV n K (tick s).2.2.2.2 (tick s).2.1 v → eO n K s (v, tick s) := fun v hv => ⟨by show s.1 ≤ s.1 + 1; omega, ht.2.2.2.1, Or.inr ⟨sxt, ht.2.2.2.2.2, hv, by show s.1 + 1 + 3 * (s.2.1 - s.2.1) ≤ s.1 + 1; omega⟩⟩
    have dark : vV n K (tick s).2.2.2.2 (tick s).2.1 (2, 0, 0) := Or.inr (Or.inl ⟨rfl, rfl⟩)
    have up : ∀ R : Vl × Sr, eO n K (tick s) R → eO n K s R := fun R hR => by
      obtain ⟨r1, r2, r3⟩ := hR
      refine ⟨by omega, r2, ?_⟩
      rcases r3 with r3 | ⟨x1, x2, x3, x4⟩
      · exact Or.inl r3
      · refine Or.inr ⟨x1, x2, x3, ?_⟩
        have : (tick s).2.1 = s.2.1 := rfl
        omega
    unfold evK
    by_cases hm : ¬ M a = 0
    · rw [if_pos hm]; exact leaf _ dark
    rw [if_neg hm]
    by_cases k1 : K a = 1
    · rw [if_pos k1]; exact leaf _ (Or.inl rfl)
    rw [if_neg k1]
    by_cases k2 : K a = 2
    · rw [if_pos k2]; exact leaf _ (lk_ok ht.2.2.2.2.2 _ _ _ ht.2.1)
    rw [if_neg k2]
    have two : ∀ (fin : Vl → Vl → Sr → Vl × Sr), ar (K a) = 2 → (∀ v w u, FQ n K (tick s) v w u → eO n K s (fin v w u)) → eO n K s (ev2 (ev K F M g) (a + 1) (eN K (a + 1)) c (tick s) fin) := fun fin a2 hf => by
      obtain ⟨w1, w2, w3, w4, w5⟩ := wf_ar2 hwf h.1 a2
      have wn := (wf_at hwf h.1).2.2
      have hx : eI n K (a + 1) c (tick s) := eI_part ht (by omega) (by omega)
      obtain ⟨o1, o2⟩ := ev2_ok (r := ev K F M g) ih hx (y := eN K (a + 1)) (by omega) (by omega)
      unfold ev2
      by_cases q1 : (ev K F M g (a + 1) c (tick s)).1.1 = 3
      · rw [if_pos q1]
        obtain ⟨r1, r2, _⟩ := o1
        exact ⟨by omega, r2, Or.inl q1⟩
      · rw [if_neg q1]
        obtain ⟨p1, p2, p3, p4⟩ := o2 q1
        by_cases q2 : (ev K F M g (eN K (a + 1)) c (ev K F M g (a + 1) c (tick s)).2).1.1 = 3
        · rw [if_pos q2]
          obtain ⟨r1, r2, _⟩ := p2
          exact ⟨by omega, r2, Or.inl q2⟩
        · rw [if_neg q2]
          exact hf _ _ _ (p4 q2)
    by_cases k3 : K a = 3
    · rw [if_pos k3]
      refine two _ (by rw [k3]; rfl) (fun v w u hq => ?_)
      obtain ⟨f1, f2, f3, f4, f5, f6, f7, f8⟩ := hq
      refine ⟨by show s.1 ≤ u.1; omega, f6, Or.inr ⟨f1, f2, ?_, ?_⟩⟩
      · show vV n K u.2.2.2.2 u.2.1 (addV v w)
        unfold addV
        by_cases z : v.1 = 0 ∧ w.1 = 0
        · rw [if_pos z]; exact Or.inl rfl
        · rw [if_neg z]; exact Or.inr (Or.inl ⟨rfl, rfl⟩)
      · show s.1 + 1 + 3 * (u.2.1 - s.2.1) ≤ u.1
        have : (tick s).2.1 = s.2.1 := rfl
        omega
    rw [if_neg k3]
    by_cases k4 : K a = 4
    · rw [if_pos k4]
      refine two _ (by rw [k4]; rfl) (fun v w u hq => ?_)
      obtain ⟨f1, f2, f3, f4, f5, f6, f7, f8⟩ := hq
      have tB : (tick s).2.1 = s.2.1 := rfl
      have f1' := f1.1
      unfold evC
      by_cases z : v.1 = 1
      · rw [if_pos z]
        obtain ⟨b1, b2, b3, b4, b5, b6, b7⟩ := bnd_ok (x := F (fnA v)) hn hwf f2 f6 (by omega) f4 f3 z
        have o3 := ih _ _ _ b6
        obtain ⟨r1, r2, r3⟩ := o3
        have bu : (bnd u (F (fnA v)) w v.2.2).1 = u.1 := rfl
        refine ⟨by omega, r2, ?_⟩
        rcases r3 with r3 | ⟨x1, x2, x3, x4⟩
        · exact Or.inl r3
        · refine Or.inr ⟨sX_tr f1 (sX_tr b7 x1), x2, x3, ?_⟩
          have bB : (bnd u (F (fnA v)) w v.2.2).2.1 = u.2.1 + 1 := rfl
          have := x1.1
          omega
      · rw [if_neg z]
        exact ⟨by show s.1 ≤ u.1; omega, f6, Or.inr ⟨f1, f2, Or.inr (Or.inl ⟨rfl, rfl⟩), by show s.1 + 1 + 3 * (u.2.1 - s.2.1) ≤ u.1; omega⟩⟩
    rw [if_neg k4]
    by_cases k5 : K a = 5
    · rw [if_pos k5]
      exact leaf _ (Or.inr (Or.inr ⟨rfl, a, h.1, rfl, k5, ht.2.1, ht.2.2.1⟩))
    rw [if_neg k5]
    by_cases k6 : K a = 6
    · rw [if_pos k6]
      obtain ⟨w1, w2, w3⟩ := wf_ar1 hwf h.1 (by rw [k6]; rfl)
      have wn := (wf_at hwf h.1).2.2
      exact up _ (ih _ _ _ (eI_part ht (by omega) (by omega)))
    · rw [if_neg k6]; exact leaf _ dark
end EVAL
