/-! the class writes its program -/
def cW (c : Nat) : Prop := 7 ≤ c ∧ c ≤ 10
def frT (σ σ' : Mem) : Prop := fr cW σ σ' ∧ ∀ q, q ≠ 3 → σ'.1 7 q = σ.1 7 q
theorem frT_rf (σ : Mem) : frT σ σ := ⟨fr_rf _ _, fun _ _ => rfl⟩
theorem frT_tr {a b c : Mem} (h1 : frT a b) (h2 : frT b c) : frT a c := ⟨fr_tr h1.1 h2.1, fun q hq => (h2.2 q hq).trans (h1.2 q hq)⟩
theorem frW_T {a b : Mem} (h : frW a b) : frT a b := ⟨fr_mono h.1 (fun c q => by unfold pgW at q; unfold cW; omega), h.2⟩
theorem frT_rI (σ : Mem) {c : Nat} (f : Nat → Int32) (h : 8 ≤ c ∧ c ≤ 10) : frT σ (rI σ c f) := ⟨fr_rI _ _ (by unfold cW; omega), fun q _ => by rw [rI_ne (by omega)]⟩
def RC (p n : Nat) (K F : Nat → Int32) (T : Nat → Int64) (σ : Mem) : Prop := σ.1 (cP p) 4 = nI n ∧ rowC σ p n K F T
theorem TC_rI {σ : Mem} {L : Tp} (h : TC σ L) {c : Nat} (f : Nat → Int32) (h1 : 7 ≠ c) : TC (rI σ c f) L := by
  unfold TC
  rw [rI_ne h1]
  exact h
section WRITE
variable {p n : Nat} {K F : Nat → Int32} {T : Nat → Int64}
theorem RC_T {σ σ' : Mem} (h : RC p n K F T σ) (hf : frT σ σ') : RC p n K F T σ' := by
  have g : ∀ c, 44 ≤ c → σ'.1 c = σ.1 c ∧ σ'.2 c = σ.2 c := fun c a => hf.1 c (by unfold cW; omega)
  unfold RC rowC
  rw [(g (cP p) (by unfold cP; omega)).1, (g (cPk p) (by unfold cPk; omega)).1, (g (cPl p) (by unfold cPl; omega)).1, (g (cPf p) (by unfold cPf; omega)).1, (g (cPt p) (by unfold cPt; omega)).2]
  exact h
def WX (p n : Nat) (K F : Nat → Int32) (T : Nat → Int64) (f : Mem → Option (Unit × Mem)) (M : Tp) (i e : Nat) (b c : Nat → Nat → Nat) : Prop := ∀ (σ : Mem) (L : Tp), RC p n K F T σ → TC σ L → L.length + M.length ≤ 1760 → ∃ σ', f σ = some ((), σ') ∧ TC σ' (L ++ M) ∧ frT σ σ' ∧ (∀ j, i ≤ j → j < e → σ'.1 9 j = nI (b L.length j) ∧ σ'.1 10 j = nI (c L.length j)) ∧ ∀ j, j < i ∨ e ≤ j → σ'.1 9 j = σ.1 9 j ∧ σ'.1 10 j = σ.1 10 j
theorem frW_9 {a b : Mem} (h : frW a b) : b.1 9 = a.1 9 ∧ b.1 10 = a.1 10 := ⟨(h.1 9 (by unfold pgW; omega)).1, (h.1 10 (by unfold pgW; omega)).1⟩
theorem WX_pre {f g : Mem → Option (Unit × Mem)} {M N : Tp} {i e : Nat} {b c : Nat → Nat → Nat} (h1 : WR f M) (h2 : WX p n K F T g N i e b c) : WX p n K F T (fun σ => bn (f σ) fun (_ : Unit) (s : Mem) => g s) (M ++ N) i e (fun l => b (l + M.length)) (fun l => c (l + M.length)) := fun σ L hR hT hl => by
  rw [List.length_append] at hl
  obtain ⟨σ1, a1, a2, a3⟩ := h1 σ L hT (by omega)
  obtain ⟨σ2, b1, b2, b3, b4, b5⟩ := h2 σ1 _ (RC_T hR (frW_T a3)) a2 (by rw [List.length_append]; omega)
  refine ⟨σ2, ?_, ?_, frT_tr (frW_T a3) b3, fun j x y => ?_, fun j hj => ?_⟩
  · show bn (f σ) _ = _
    rw [a1, bn_q, b1]
  · rw [← List.append_assoc]; exact b2
  · have := b4 j x y
    rw [List.length_append] at this
    exact this
  · rw [(b5 j hj).1, (b5 j hj).2, (frW_9 a3).1, (frW_9 a3).2]; exact ⟨rfl, rfl⟩
theorem WX_post {f g : Mem → Option (Unit × Mem)} {M N : Tp} {i e : Nat} {b c : Nat → Nat → Nat} (h1 : WX p n K F T f M i e b c) (h2 : WR g N) : WX p n K F T (fun σ => bn (f σ) fun (_ : Unit) (s : Mem) => g s) (M ++ N) i e b c := fun σ L hR hT hl => by
  rw [List.length_append] at hl
  obtain ⟨σ1, a1, a2, a3, a4, a5⟩ := h1 σ L hR hT (by omega)
  obtain ⟨σ2, b1, b2, b3⟩ := h2 σ1 _ a2 (by rw [List.length_append]; omega)
  refine ⟨σ2, ?_, ?_, frT_tr a3 (frW_T b3), fun j x y => ?_, fun j hj => ?_⟩
  · show bn (f σ) _ = _
    rw [a1, bn_q, b1]
  · rw [← List.append_assoc]; exact b2
  · rw [(frW_9 b3).1, (frW_9 b3).2]; exact a4 j x y
  · rw [(frW_9 b3).1, (frW_9 b3).2]; exact a5 j hj
theorem WX_two {f g : Mem → Option (Unit × Mem)} {M N : Tp} {i m e : Nat} {b c b' c' : Nat → Nat → Nat} (h1 : WX p n K F T f M i m b c) (h2 : WX p n K F T g N m e b' c') (hi : i ≤ m) (hm : m ≤ e) : WX p n K F T (fun σ => bn (f σ) fun (_ : Unit) (s : Mem) => g s) (M ++ N) i e (fun l j => if j < m then b l j else b' (l + M.length) j) (fun l j => if j < m then c l j else c' (l + M.length) j) := fun σ L hR hT hl => by
  rw [List.length_append] at hl
  obtain ⟨σ1, a1, a2, a3, a4, a5⟩ := h1 σ L hR hT (by omega)
  obtain ⟨σ2, b1, b2, b3, b4, b5⟩ := h2 σ1 _ (RC_T hR a3) a2 (by rw [List.length_append]; omega)
  refine ⟨σ2, ?_, ?_, frT_tr a3 b3, fun j x y => ?_, fun j hj => ?_⟩
  · show bn (f σ) _ = _
    rw [a1, bn_q, b1]
  · rw [← List.append_assoc]; exact b2
  · dsimp only
    by_cases z : j < m
    · rw [if_pos z, if_pos z, (b5 j (Or.inl z)).1, (b5 j (Or.inl z)).2]; exact a4 j x z
    · rw [if_neg z, if_neg z]
      have := b4 j (by omega) y
      rw [List.length_append] at this
      exact this
  · rw [(b5 j (by omega)).1, (b5 j (by omega)).2]; exact a5 j (by omega)
theorem WX_of {f g : Mem → Option (Unit × Mem)} {M N : Tp} {i e : Nat} {b c b' c' : Nat → Nat → Nat} (h : WX p n K F T f M i e b c) (hf : ∀ σ, RC p n K F T σ → g σ = f σ) (hM : M = N) (hb : ∀ l j, i ≤ j → j < e → b l j = b' l j ∧ c l j = c' l j) : WX p n K F T g N i e b' c' := fun σ L hR hT hl => by
  subst hM
  obtain ⟨σ1, a1, a2, a3, a4, a5⟩ := h σ L hR hT hl
  refine ⟨σ1, by rw [hf σ hR]; exact a1, a2, a3, fun j x y => ?_, a5⟩
  rw [← (hb L.length j x y).1, ← (hb L.length j x y).2]
  exact a4 j x y
theorem WX_s {f : Mem → Option (Unit × Mem)} {M : Tp} (h : WR f M) (i : Nat) (b c : Nat → Nat → Nat) : WX p n K F T f M i i b c := fun σ L hR hT hl => by
  obtain ⟨σ1, a1, a2, a3⟩ := h σ L hT hl
  exact ⟨σ1, a1, a2, frW_T a3, fun j x y => by omega, fun j _ => by rw [(frW_9 a3).1, (frW_9 a3).2]; exact ⟨rfl, rfl⟩⟩
theorem WR_ty (o : Nat) {x : Int64} (h : okT x) : WR (F_Pa_writeType 28 x 0) (own o (tyTx (vN x) 28 0)) := by
  obtain ⟨m, hm⟩ := okT_x h
  have m27 := hm.2.2
  have := W_type o 28 (u := vN x) (m := m) (d := 0) (g := 28) hm (by omega) (by omega) (by omega)
  rw [← vN_eq] at this
  exact this
theorem WR_name (o : Nat) (v : Int32) : WR (f_Pa_writeName v) [(97 + v, o)] := WR_eq (WR_r (WR_1 (97 + v) o)) (fun _ => rfl) rfl
/-- the parts of a term, and what stands around them -/
theorem W_parts (hn : n ≤ 40) (hwf : wf K n) (hk : okK n K F T) {f i e d : Nat} (hi : i < n) (hee : eN K i = e) (rc : Nat → Int32 → Int32 → Mem → Option (Unit × Mem)) (ha : 1 ≤ ar (K i))
    (h1 : WX p n K F T (rc p (nI (i + 1)) (nI d + 1)) (tx K F T f (i + 1)) (i + 1) (eN K (i + 1)) (bgn K F T f (i + 1)) (enn K F T f (i + 1)))
    (h2 : ar (K i) = 2 → WX p n K F T (rc p (nI (eN K (i + 1))) (nI d + 1)) (tx K F T f (eN K (i + 1))) (eN K (i + 1)) e (bgn K F T f (eN K (i + 1))) (enn K F T f (eN K (i + 1)))) :
    WX p n K F T (f_Pa_writeWithParts rc p (nI i) (nI d)) (tx K F T (f + 1) i) (i + 1) e (bgn K F T (f + 1) i) (enn K F T (f + 1) i) := by
  have gi : inb (nI i) 40 = true := inb_nI (by omega) (by decide)
  have ci : (nI i).toNatClampNeg = i := nI_cl (by omega)
  have ex : tx K F T (f + 1) i = if ar (K i) = 0 then own i (opT K F T i) else if ar (K i) = 1 then own i (opT K F T i) ++ tx K F T f (i + 1) ++ own i (clT K F T i) else own i (opT K F T i) ++ tx K F T f (i + 1) ++ [(mdT K i, i)] ++ tx K F T f (eN K (i + 1)) ++ own i (clT K F T i) := rfl
  have eb : ∀ l j, bgn K F T (f + 1) i l j = if j = i then l else if ar (K i) = 1 ∨ j < eN K (i + 1) then bgn K F T f (i + 1) (l + (opT K F T i).length) j else bgn K F T f (eN K (i + 1)) (l + (opT K F T i).length + (tx K F T f (i + 1)).length + 1) j := fun _ _ => rfl
  have ee : ∀ l j, enn K F T (f + 1) i l j = if j = i then l + (tx K F T (f + 1) i).length else if ar (K i) = 1 ∨ j < eN K (i + 1) then enn K F T f (i + 1) (l + (opT K F T i).length) j else enn K F T f (eN K (i + 1)) (l + (opT K F T i).length + (tx K F T f (i + 1)).length + 1) j := fun _ _ => rfl
  have p0 : ∀ σ, RC p n K F T σ → f_Pr_part p (nI i) 0 σ = some (nI (i + 1), σ) := fun σ hR => by
    rw [s_Pr_part hn hR.1 hR.2 hwf 0 hi, if_pos ⟨rfl, ha⟩]
  obtain ⟨k1, k2, k3, k4⟩ := hk i hi
  have two : ar (K i) = 2 → ∀ l j, i + 1 ≤ j → (bgn K F T (f + 1) i l j = if j < eN K (i + 1) then bgn K F T f (i + 1) (l + (opT K F T i).length) j else bgn K F T f (eN K (i + 1)) (l + (opT K F T i).length + (tx K F T f (i + 1)).length + 1) j) ∧ (enn K F T (f + 1) i l j = if j < eN K (i + 1) then enn K F T f (i + 1) (l + (opT K F T i).length) j else enn K F T f (eN K (i + 1)) (l + (opT K F T i).length + (tx K F T f (i + 1)).length + 1) j) := fun q l j hj => by
    have hji : ¬ j = i := by omega
    rw [eb, ee, if_neg hji, if_neg hji]
    by_cases z : j < eN K (i + 1)
    · have zz : ar (K i) = 1 ∨ j < eN K (i + 1) := Or.inr z
      rw [if_pos z, if_pos z, if_pos zz, if_pos zz]; exact ⟨rfl, rfl⟩
    · have zz : ¬ (ar (K i) = 1 ∨ j < eN K (i + 1)) := by omega
      rw [if_neg z, if_neg z, if_neg zz, if_neg zz]; exact ⟨rfl, rfl⟩
  have one : ar (K i) = 1 → ∀ l j, i + 1 ≤ j → bgn K F T (f + 1) i l j = bgn K F T f (i + 1) (l + (opT K F T i).length) j ∧ enn K F T (f + 1) i l j = enn K F T f (i + 1) (l + (opT K F T i).length) j := fun q l j hj => by
    have hji : ¬ j = i := by omega
    have zz : ar (K i) = 1 ∨ j < eN K (i + 1) := Or.inl q
    rw [eb, ee, if_neg hji, if_neg hji, if_pos zz, if_pos zz]; exact ⟨rfl, rfl⟩
  rcases k1 with q | q | q | q | q | q | q
  · rw [q] at ha; exact absurd ha (by decide)
  · rw [q] at ha; exact absurd ha (by decide)
  · rw [q] at ha; exact absurd ha (by decide)
  · -- a sum
    have a2 : ar (K i) = 2 := by rw [q]; rfl
    obtain ⟨w1, w2, w3, w4, w5⟩ := wf_ar2 hwf hi a2
    have p1 : ∀ σ, RC p n K F T σ → f_Pr_part p (nI i) 1 σ = some (nI (eN K (i + 1)), σ) := fun σ hR => by
      rw [s_Pr_part hn hR.1 hR.2 hwf 1 hi, if_neg (fun z => absurd z.1 (by decide)), if_pos ⟨rfl, a2⟩]
    refine WX_of (WX_pre (WR_1 40 i) (WX_two h1 (WX_pre (WR_1 43 i) (WX_post (h2 a2) (WR_r (WR_1 41 i)))) (by omega) (by omega))) (fun σ hR => ?_) ?_ (fun l j x y => ?_)
    · unfold f_Pa_writeWithParts
      rw [p0 σ hR, bn_q, p1 σ hR, bn_q, gd_t gi, ci, (hR.2 i hi).1, if_pos q]
    · rw [ex, if_neg (by omega), if_neg (by omega), op_3 q, cl_3 q, own_1, own_1, show mdT K i = 43 by unfold mdT; rw [if_pos q]]
      simp only [List.append_assoc]
    · obtain ⟨t1, t2⟩ := two a2 l j x
      rw [t1, t2, op_3 q]
      by_cases z : j < eN K (i + 1)
      · simp only [if_pos z]; exact ⟨rfl, rfl⟩
      · simp only [if_neg z]
        exact ⟨rfl, rfl⟩
  · -- a call
    have a2 : ar (K i) = 2 := by rw [q]; rfl
    obtain ⟨w1, w2, w3, w4, w5⟩ := wf_ar2 hwf hi a2
    have p1 : ∀ σ, RC p n K F T σ → f_Pr_part p (nI i) 1 σ = some (nI (eN K (i + 1)), σ) := fun σ hR => by
      rw [s_Pr_part hn hR.1 hR.2 hwf 1 hi, if_neg (fun z => absurd z.1 (by decide)), if_pos ⟨rfl, a2⟩]
    refine WX_of (WX_two h1 (WX_pre (WR_1 40 i) (WX_post (h2 a2) (WR_r (WR_1 41 i)))) (by omega) (by omega)) (fun σ hR => ?_) ?_ (fun l j x y => ?_)
    · unfold f_Pa_writeWithParts
      rw [p0 σ hR, bn_q, p1 σ hR, bn_q, gd_t gi, ci, (hR.2 i hi).1, if_neg (by rw [q]; decide), if_pos q]
    · rw [ex, if_neg (by omega), if_neg (by omega), op_4 q, cl_4 q, own_0, own_1, show mdT K i = 40 by unfold mdT; rw [if_neg (by rw [q]; decide)]]
      simp only [List.append_assoc, List.nil_append]
    · obtain ⟨t1, t2⟩ := two a2 l j x
      rw [t1, t2, op_4 q]
      by_cases z : j < eN K (i + 1)
      · simp only [if_pos z]; exact ⟨rfl, rfl⟩
      · simp only [if_neg z]
        exact ⟨rfl, rfl⟩
  · -- a function
    have a1 : ar (K i) = 1 := by rw [q]; rfl
    obtain ⟨w1, w2, w3⟩ := wf_ar1 hwf hi a1
    rw [w1, hee] at h1
    have p1 : ∀ σ, RC p n K F T σ → f_Pr_part p (nI i) 1 σ = some (-1, σ) := fun σ hR => by
      rw [s_Pr_part hn hR.1 hR.2 hwf 1 hi, if_neg (fun z => absurd z.1 (by decide)), if_neg (by omega)]
    refine WX_of (WX_pre (WR_1 91 i) (WX_of (g := fun σ => gd (inb (nI i) 40) (bn (f_Pa_writeName (σ.1 (cPf p) (nI i).toNatClampNeg) σ) fun (_ : Unit) (σ30 : Mem) => bn (f_Pa_writeSign 58 σ30) fun (_ : Unit) (σ32 : Mem) => gd (inb (nI i) 40) (bn (F_Pa_writeType 28 (σ32.2 (cPt p) (nI i).toNatClampNeg) 0 σ32) fun (_ : Unit) (σ35 : Mem) => bn (rc p (nI (i + 1)) (nI d + 1) σ35) fun (_ : Unit) (σ37 : Mem) => bn (f_Pa_writeSign 93 σ37) fun (_ : Unit) (σ39 : Mem) => some ((), σ39)))) (WX_pre (WR_name i (F i)) (WX_pre (WR_1 58 i) (WX_of (g := fun σ32 => gd (inb (nI i) 40) (bn (F_Pa_writeType 28 (σ32.2 (cPt p) (nI i).toNatClampNeg) 0 σ32) fun (_ : Unit) (σ35 : Mem) => bn (rc p (nI (i + 1)) (nI d + 1) σ35) fun (_ : Unit) (σ37 : Mem) => bn (f_Pa_writeSign 93 σ37) fun (_ : Unit) (σ39 : Mem) => some ((), σ39))) (WX_pre (WR_ty i (k4 (Or.inl q))) (WX_post h1 (WR_r (WR_1 93 i)))) (fun σ hR => ?_) rfl (fun _ _ _ _ => ⟨rfl, rfl⟩)))) (fun σ hR => ?_) rfl (fun _ _ _ _ => ⟨rfl, rfl⟩))) (fun σ hR => ?_) ?_ (fun l j x y => ?_)
    · rw [gd_t gi, ci, (hR.2 i hi).2.2.2 (Or.inl q)]
    · rw [gd_t gi, ci, (hR.2 i hi).2.2.1 (Or.inr (Or.inr q))]
    · unfold f_Pa_writeWithParts
      rw [p0 σ hR, bn_q, p1 σ hR, bn_q, gd_t gi, ci, (hR.2 i hi).1, if_neg (by rw [q]; decide), if_neg (by rw [q]; decide), if_pos q]
    · rw [ex, if_neg (by omega), if_pos a1, op_5 q, cl_5 q, own_ap, own_ap, own_ap, own_1, own_1, own_1, own_1]
      simp only [List.append_assoc]
    · obtain ⟨t1, t2⟩ := one a1 l j x
      rw [t1, t2, op_5 q]
      simp only [List.length_append, own_len, Nat.add_assoc]
      exact ⟨rfl, rfl⟩
  · -- a claim
    have a1 : ar (K i) = 1 := by rw [q]; rfl
    obtain ⟨w1, w2, w3⟩ := wf_ar1 hwf hi a1
    rw [w1, hee] at h1
    have p1 : ∀ σ, RC p n K F T σ → f_Pr_part p (nI i) 1 σ = some (-1, σ) := fun σ hR => by
      rw [s_Pr_part hn hR.1 hR.2 hwf 1 hi, if_neg (fun z => absurd z.1 (by decide)), if_neg (by omega)]
    refine WX_of (WX_pre (WR_1 123 i) (WX_two (m := e) h1 (WX_pre (WR_1 58 i) (WX_of (g := fun σ45 => gd (inb (nI i) 40) (bn (F_Pa_writeType 28 (σ45.2 (cPt p) (nI i).toNatClampNeg) 0 σ45) fun (_ : Unit) (σ48 : Mem) => bn (f_Pa_writeSign 125 σ48) fun (_ : Unit) (σ50 : Mem) => some ((), σ50))) (WX_s (WR_bn (WR_ty i (k4 (Or.inr q))) (WR_r (WR_1 125 i))) e (fun _ _ => 0) (fun _ _ => 0)) (fun σ hR => ?_) rfl (fun _ _ _ _ => ⟨rfl, rfl⟩))) (by omega) (Nat.le_refl _))) (fun σ hR => ?_) ?_ (fun l j x y => ?_)
    · rw [gd_t gi, ci, (hR.2 i hi).2.2.2 (Or.inr q)]
    · unfold f_Pa_writeWithParts
      rw [p0 σ hR, bn_q, p1 σ hR, bn_q, gd_t gi, ci, (hR.2 i hi).1, if_neg (by rw [q]; decide), if_neg (by rw [q]; decide), if_neg (by rw [q]; decide)]
    · rw [ex, if_neg (by omega), if_pos a1, op_6 q, cl_6 q, own_ap, own_ap, own_1, own_1, own_1]
      simp only [List.append_assoc]
    · obtain ⟨t1, t2⟩ := one a1 l j x
      rw [t1, t2, op_6 q]
      simp only [if_pos y]
      exact ⟨rfl, rfl⟩
end WRITE
