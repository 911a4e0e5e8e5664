/-! the class's typing: the same equations -/
def stC (σ : Mem) : St := (σ.2 4, σ.2 5, σ.1 6)
def cT (c : Nat) : Prop := c = 4 ∨ c = 5 ∨ c = 6
def CR (σ : Mem) (p n : Nat) (K F : Nat → Int32) (T : Nat → Int64) : Prop := σ.1 (cP p) 4 = nI n ∧ rowC σ p n K F T
theorem CR_fr {σ σ' : Mem} {p n : Nat} {K F : Nat → Int32} {T : Nat → Int64} (h : CR σ p n K F T) (hf : fr cT σ σ') : CR σ' p n K F T := by
  have q : ∀ c, 44 ≤ c → σ'.1 c = σ.1 c ∧ σ'.2 c = σ.2 c := fun c hc => hf c (by unfold cT; omega)
  refine ⟨by rw [(q (cP p) (by unfold cP; omega)).1]; exact h.1, ?_⟩
  unfold rowC
  rw [(q (cPk p) (by unfold cPk; omega)).1, (q (cPf p) (by unfold cPf; omega)).1, (q (cPt p) (by unfold cPt; omega)).2, (q (cPl p) (by unfold cPl; omega)).1]
  exact h.2
def LocI (K F : Nat → Int32) (T : Nat → Int64) (i e : Nat) (s : St) : Prop := ∀ j, i ≤ j → j < e → okT (s.1 j) ∧ okW (s.2.1 j) ∧ s.1 j = gF K F T (H_ s j) j ∧ s.2.2 j = mF K F T (H_ s j) (s.2.1 j) (s.1 j) j ∧ (i < j → s.2.1 j = wE K T s j)
noncomputable def pm (K F : Nat → Int32) (T : Nat → Int64) (h w : Int64) (j : Nat) : Int32 := if K j = 2 ∧ bd K F j j = none then 1 else if K j = 4 ∧ h = 2 then 2 else if K j = 5 ∧ isF w ∧ cnF (T j) (tkF w) = 0 then 3 else 0
theorem mF_pm (K F : Nat → Int32) (T : Nat → Int64) (h w g : Int64) (j : Nat) : mF K F T h w g j = if pm K F T h w j = 0 ∧ ¬ w = 0 ∧ cnF g w = 0 then 4 else pm K F T h w j := by
  unfold mF pm
  by_cases a : K j = 2 ∧ bd K F j j = none
  · rw [if_pos a, if_pos a, if_neg (fun z => absurd z.1 (by decide))]
  rw [if_neg a, if_neg a]
  by_cases b : K j = 4 ∧ h = 2
  · rw [if_pos b, if_pos b, if_neg (fun z => absurd z.1 (by decide))]
  rw [if_neg b, if_neg b]
  by_cases c : K j = 5 ∧ isF w ∧ cnF (T j) (tkF w) = 0
  · rw [if_pos c, if_pos c, if_neg (fun z => absurd z.1 (by decide))]
  rw [if_neg c, if_neg c]
  by_cases d : ¬ w = 0 ∧ cnF g w = 0
  · rw [if_pos d, if_pos ⟨rfl, d⟩]
  · rw [if_neg d, if_neg (fun z => d z.2)]
section CTYPE
variable {n p : Nat} {K F : Nat → Int32} {T : Nat → Int64}
theorem H_sm {s s' : St} {j : Nat} (h : sm s' s (j + 1)) : H_ s' j = H_ s j := by
  unfold H_
  rw [h.1, h.2.2]
theorem LocI_sm (hw : wf K n) (hk : okK n K F T) {i : Nat} {s s' : St} (hi : i < n) (h : LocI K F T i (eN K i) s) (hs : ∀ j, i ≤ j → j < eN K i → sm s' s j) : LocI K F T i (eN K i) s' := fun j h1 h2 => by
  obtain ⟨a1, a2, a3, a4, a5⟩ := h j h1 h2
  obtain ⟨b1, b2, b3⟩ := hs j h1 h2
  rw [b1, b2, b3]
  have he := (wf_at hw hi).2.2
  have hjn : j < n := by omega
  have hje := wf_in hw hi h1 h2
  refine ⟨a1, a2, ?_, ?_, fun hij => ?_⟩
  · by_cases q : ar (K j) = 0
    · rw [a3]; exact gF_leaf (hk j hjn).1 q _ _
    · have := (up_first hw hjn q).2
      rw [H_sm (hs (j + 1) (by omega) (by omega))]
      exact a3
  · by_cases q : ar (K j) = 0
    · rw [a4]; exact mF_leaf (hk j hjn).1 q _ _ _ _
    · have := (up_first hw hjn q).2
      rw [H_sm (hs (j + 1) (by omega) (by omega))]
      exact a4
  · rw [a5 hij]
    unfold wE
    cases z : up1 K j j with
    | none => rfl
    | some q =>
      obtain ⟨c1, c2, c3⟩ := up1_some z
      have hq : i ≤ q := by
        by_cases y : i ≤ q
        · exact y
        · have := c3 i (by omega) hij
          omega
      show wF K T (H_ s q) (s.2.1 q) q _ = wF K T (H_ s' q) (s'.2.1 q) q _
      rw [H_sm (hs (q + 1) (by omega) (by omega)), (hs q hq (by omega)).2.1]
/-- what typing a term leaves -/
def POST (K F : Nat → Int32) (T : Nat → Int64) (a : Nat) (w : Int64) (σ σ' : Mem) : Prop := fr cT σ σ' ∧ (∀ j, j < a ∨ eN K a ≤ j → sm (stC σ') (stC σ) j) ∧ (stC σ').2.1 a = w ∧ LocI K F T a (eN K a) (stC σ')
def rcOK (p n : Nat) (K F : Nat → Int32) (T : Nat → Int64) (rc : Nat → Int32 → Int64 → Int32 → Mem → Option (Int64 × Mem)) (d a : Nat) : Prop := ∀ (w : Int64) (σ : Mem), okW w → CR σ p n K F T → ∃ σ', rc p (nI a) w (nI (d + 1)) σ = some (hasF ((stC σ').2.2 a) ((stC σ').1 a), σ') ∧ POST K F T a w σ σ'
/-- what typing by kind leaves -/
def TBK (K F : Nat → Int32) (T : Nat → Int64) (i : Nat) (w r : Int64) (σ σ' : Mem) : Prop := fr cT σ σ' ∧ (∀ j, j < i ∨ eN K i ≤ j → sm (stC σ') (stC σ) j) ∧ (stC σ').2.1 i = w ∧ r = gF K F T (H_ (stC σ') i) i ∧ (stC σ').2.2 i = pm K F T (H_ (stC σ') i) w i ∧ (ar (K i) ≠ 0 → (stC σ').2.1 (i + 1) = wF K T (H_ (stC σ') i) w i 0 ∧ LocI K F T (i + 1) (eN K (i + 1)) (stC σ')) ∧ (ar (K i) = 2 → (stC σ').2.1 (eN K (i + 1)) = wF K T (H_ (stC σ') i) w i 1 ∧ LocI K F T (eN K (i + 1)) (eN K i) (stC σ'))
variable {σ : Mem} {rc : Nat → Int32 → Int64 → Int32 → Mem → Option (Int64 × Mem)} {d i : Nat} {w : Int64}
theorem pm_0 {h : Int64} (h2 : ¬ K i = 2) (h4 : ¬ K i = 4) (h5 : ¬ K i = 5) : pm K F T h w i = 0 := by
  unfold pm
  rw [if_neg (fun z => h2 z.1), if_neg (fun z => h4 z.1), if_neg (fun z => h5 z.1)]
theorem gF_4 {h : Int64} (hK : K i = 4) : gF K F T h i = if isF h then gvF h else 1 := by unfold gF; rw [hK]; rfl
theorem gF_5 {h : Int64} (hK : K i = 5) : gF K F T h i = frF (T i) h := by unfold gF; rw [hK]; rfl
theorem wF_40 {h : Int64} (hK : K i = 4) : wF K T h w i 0 = 0 := by unfold wF; rw [hK]; rfl
theorem wF_41 {h : Int64} (hK : K i = 4) : wF K T h w i 1 = if isF h then tkF h else 1 := by unfold wF; rw [hK]; rfl
theorem wF_5 {h : Int64} (hK : K i = 5) (v : Int32) : wF K T h w i v = if isF w then gvF w else if w = 1 then 1 else 0 := by unfold wF; rw [hK]; rfl
theorem pm_4 {h : Int64} (hK : K i = 4) : pm K F T h w i = if h = 2 then 2 else 0 := by
  unfold pm
  rw [if_neg (show ¬ (K i = 2 ∧ bd K F i i = none) from fun z => by rw [hK] at z; exact absurd z.1 (by decide))]
  by_cases z : h = 2
  · rw [if_pos z, if_pos (show K i = 4 ∧ h = 2 from ⟨hK, z⟩)]
  · rw [if_neg z, if_neg (show ¬ (K i = 4 ∧ h = 2) from fun q => z q.2), if_neg (show ¬ (K i = 5 ∧ isF w ∧ cnF (T i) (tkF w) = 0) from fun q => by rw [hK] at q; exact absurd q.1 (by decide))]
/-- a term without parts -/
theorem tb_leaf (h0 : ar (K i) = 0) (hw : (stC σ).2.1 i = w) {r : Int64} (hr : r = gF K F T (H_ (stC σ) i) i) (hm : (stC σ).2.2 i = pm K F T (H_ (stC σ) i) w i) : TBK K F T i w r σ σ := ⟨fr_rf _ _, fun j _ => sm_rf _ _, hw, hr, hm, fun z => absurd h0 z, fun z => by omega⟩
theorem fr_6 (σ : Mem) (i : Nat) (v : Int32) : fr cT σ (sI σ 6 i v) := fr_rI _ _ (Or.inr (Or.inr rfl))
theorem st_6 (σ : Mem) (i : Nat) (v : Int32) : stC (sI σ 6 i v) = (σ.2 4, σ.2 5, upd (σ.1 6) i v) := by
  unfold stC
  rw [rI_at]
  rfl
theorem sm_6 {σ : Mem} {i j : Nat} {v : Int32} (h : j ≠ i) : sm (stC (sI σ 6 i v)) (stC σ) j := by
  rw [st_6]
  exact ⟨rfl, rfl, pk_un h⟩
theorem tb_0 (hK : K i = 0) (hw : (stC σ).2.1 i = w) (hm : (stC σ).2.2 i = 0) : TBK K F T i w 1 σ σ :=
  tb_leaf (by rw [hK]; rfl) hw (by unfold gF; rw [if_pos hK]) (by rw [hm, pm_0] <;> (rw [hK]; decide))
theorem tb_1 (hK : K i = 1) (hw : (stC σ).2.1 i = w) (hm : (stC σ).2.2 i = 0) : TBK K F T i w 2 σ σ :=
  tb_leaf (by rw [hK]; rfl) hw (by unfold gF; rw [if_neg (by rw [hK]; decide), if_pos hK]) (by rw [hm, pm_0] <;> (rw [hK]; decide))
theorem tb_2 (hn : n ≤ 40) (hC : CR σ p n K F T) (hwf : wf K n) (hi : i < n) (hK : K i = 2) (hw : (stC σ).2.1 i = w) (hm : (stC σ).2.2 i = 0) : ∃ r σ', f_Tg_typeName p (nI i) σ = some (r, σ') ∧ TBK K F T i w r σ σ' := by
  have g2 : ∀ h, gF K F T h i = bT K F T i := fun h => by
    unfold gF
    rw [if_neg (by rw [hK]; decide), if_neg (by rw [hK]; decide), if_neg (by rw [hK]; decide), if_pos hK]
  have a0 : ar (K i) = 0 := by rw [hK]; rfl
  unfold f_Tg_typeName
  rw [s_Pr_binder hn hC.2 hwf hi hK, bn_q]
  cases h : bd K F i i with
  | none =>
    refine ⟨1, sI σ 6 i 1, ?_, fr_6 _ _ _, fun j hj => sm_6 (by have := wf_ar0 hwf hi a0; omega), ?_, ?_, ?_, fun z => absurd a0 z, fun z => by omega⟩
    · rw [if_neg oI_no, gd_t (inb_nI (by omega) (by decide)), nI_cl (by omega)]
      rfl
    · rw [st_6]; exact hw
    · rw [g2]; unfold bT; rw [h]
    · rw [st_6]
      show upd (σ.1 6) i 1 i = _
      rw [pk_us]
      unfold pm
      rw [if_pos ⟨hK, h⟩]
  | some b =>
    obtain ⟨h1, h2, _⟩ := bd_some h
    refine ⟨T b, σ, ?_, tb_leaf a0 hw ?_ ?_⟩
    · rw [if_pos (oI_ge (by omega)), oI_n, gd_t (inb_nI (by omega) (by decide)), nI_cl (by omega), (hC.2 b (by omega)).2.2.2 (Or.inl h2)]
    · rw [g2]; unfold bT; rw [h]
    · rw [hm]
      unfold pm
      rw [if_neg (fun z => by rw [h] at z; cases z.2), if_neg (fun z => by rw [hK] at z; exact absurd z.1 (by decide)), if_neg (fun z => by rw [hK] at z; exact absurd z.1 (by decide))]
theorem pt_1 (hn : n ≤ 40) (hC : CR σ p n K F T) (hwf : wf K n) (hi : i < n) (ha : ar (K i) ≠ 0) : f_Pr_part p (nI i) 0 σ = some (nI (i + 1), σ) := by
  rw [s_Pr_part hn hC.1 hC.2 hwf 0 hi, if_pos ⟨rfl, by omega⟩]
theorem pt_2 (hn : n ≤ 40) (hC : CR σ p n K F T) (hwf : wf K n) (hi : i < n) (ha : ar (K i) = 2) : f_Pr_part p (nI i) 1 σ = some (nI (eN K (i + 1)), σ) := by
  rw [s_Pr_part hn hC.1 hC.2 hwf 1 hi, if_neg (fun z => absurd z.1 (by decide)), if_pos ⟨rfl, ha⟩]
/-- both parts typed -/
theorem two (hwf : wf K n) (hk : okK n K F T) (hi : i < n) (ha : ar (K i) = 2) {w1 w2 : Int64} {σ1 σ2 : Mem} (h1 : POST K F T (i + 1) w1 σ σ1) (h2 : POST K F T (eN K (i + 1)) w2 σ1 σ2) : fr cT σ σ2 ∧ (∀ j, j ≤ i ∨ eN K i ≤ j → sm (stC σ2) (stC σ) j) ∧ (stC σ2).2.1 (i + 1) = w1 ∧ LocI K F T (i + 1) (eN K (i + 1)) (stC σ2) ∧ (stC σ2).2.1 (eN K (i + 1)) = w2 ∧ LocI K F T (eN K (i + 1)) (eN K i) (stC σ2) ∧ H_ (stC σ2) i = H_ (stC σ1) i := by
  obtain ⟨e1, e2, e3, _⟩ := wf_ar2 hwf hi ha
  have hn' := (wf_at hwf hi).2.2
  obtain ⟨a1, a2, a3, a4⟩ := h1
  obtain ⟨b1, b2, b3, b4⟩ := h2
  refine ⟨fr_tr a1 b1, fun j hj => sm_tr (b2 j (by omega)) (a2 j (by omega)), ?_, ?_, b3, by rw [e3] at b4; exact b4, H_sm (b2 (i + 1) (by omega))⟩
  · rw [(b2 (i + 1) (by omega)).2.1]; exact a3
  · exact LocI_sm hwf hk (by omega) a4 (fun j h1 h2 => b2 j (by omega))
theorem k_345 {k : Int32} (h : k = 3 ∨ k = 4) : ar k = 2 := by rcases h with rfl | rfl <;> rfl
theorem tb_3 (hn : n ≤ 40) (hC : CR σ p n K F T) (hwf : wf K n) (hk : okK n K F T) (hi : i < n) (hK : K i = 3) (hw : (stC σ).2.1 i = w) (hm : (stC σ).2.2 i = 0) (hr : ∀ a, i < a → a < eN K i → dp K a = dp K i + 1 → rcOK p n K F T rc d a) : ∃ σ', (bn (f_Pr_part p (nI i) (0 : Int32) σ) fun (r7 : Int32) (σ6 : Mem) => bn (rc p r7 (2 : Int64) (nI d + (1 : Int32)) σ6) fun (r10 : Int64) (σ9 : Mem) => bn (f_Pr_part p (nI i) (1 : Int32) σ9) fun (r13 : Int32) (σ12 : Mem) => bn (rc p r13 (2 : Int64) (nI d + (1 : Int32)) σ12) fun (r16 : Int64) (σ15 : Mem) => some ((2 : Int64), σ15)) = some (2, σ') ∧ TBK K F T i w 2 σ σ' := by
  have ha : ar (K i) = 2 := k_345 (Or.inl hK)
  obtain ⟨e1, e2, e3, e4, e5⟩ := wf_ar2 hwf hi ha
  obtain ⟨σ1, x1, x2⟩ := hr (i + 1) (by omega) (by omega) e4 2 σ (Or.inr okT_2) hC
  obtain ⟨σ2, y1, y2⟩ := hr (eN K (i + 1)) (by omega) e2 e5 2 σ1 (Or.inr okT_2) (CR_fr hC x2.1)
  obtain ⟨t1, t2, t3, t4, t5, t6, t7⟩ := two hwf hk hi ha x2 y2
  refine ⟨σ2, ?_, t1, fun j hj => t2 j (by omega), ?_, ?_, ?_, fun _ => ⟨?_, t4⟩, fun _ => ⟨?_, t6⟩⟩
  · rw [pt_1 hn hC hwf hi (by omega), bn_q, nI_1, x1, bn_q, pt_2 hn (CR_fr hC x2.1) hwf hi ha, bn_q, y1, bn_q]
  · rw [(t2 i (by omega)).2.1]; exact hw
  · unfold gF; rw [if_neg (by rw [hK]; decide), if_neg (by rw [hK]; decide), if_pos hK]
  · rw [(t2 i (by omega)).2.2, hm, pm_0] <;> (rw [hK]; decide)
  · rw [t3]; unfold wF; rw [if_pos hK]
  · rw [t5]; unfold wF; rw [if_pos hK]
theorem tb_6 (hn : n ≤ 40) (hC : CR σ p n K F T) (hwf : wf K n) (hk : okK n K F T) (hi : i < n) (hK : K i = 6) (hw : (stC σ).2.1 i = w) (hm : (stC σ).2.2 i = 0) (hr : ∀ a, i < a → a < eN K i → dp K a = dp K i + 1 → rcOK p n K F T rc d a) : ∃ r σ', (bn (f_Pr_part p (nI i) (0 : Int32) σ) fun (r25 : Int32) (σ24 : Mem) => gd (inb (nI i) 40) (bn (rc p r25 (σ24.2 (cPt p) (nI i).toNatClampNeg) (nI d + (1 : Int32)) σ24) fun (r29 : Int64) (σ28 : Mem) => gd (inb (nI i) 40) (some (σ28.2 (cPt p) (nI i).toNatClampNeg, σ28)))) = some (r, σ') ∧ TBK K F T i w r σ σ' := by
  have ha : ar (K i) = 1 := by rw [hK]; rfl
  obtain ⟨e1, e2, e3⟩ := wf_ar1 hwf hi ha
  have eT : σ.2 (cPt p) i = T i := (hC.2 i hi).2.2.2 (Or.inr hK)
  obtain ⟨σ1, x1, x2⟩ := hr (i + 1) (by omega) (by omega) e3 (T i) σ (Or.inr ((hk i hi).2.2.2 (Or.inr hK))) hC
  have eT1 : σ1.2 (cPt p) i = T i := ((CR_fr hC x2.1).2 i hi).2.2.2 (Or.inr hK)
  refine ⟨T i, σ1, ?_, x2.1, fun j hj => x2.2.1 j (by omega), ?_, ?_, ?_, fun _ => ⟨?_, x2.2.2.2⟩, fun z => by omega⟩
  · rw [pt_1 hn hC hwf hi (by omega), bn_q, gd_t (inb_nI (by omega) (by decide)), nI_cl (by omega), eT, nI_1, x1, bn_q, gd_t (inb_nI (by omega) (by decide)), eT1]
  · rw [(x2.2.1 i (by omega)).2.1]; exact hw
  · unfold gF; rw [if_neg (by rw [hK]; decide), if_neg (by rw [hK]; decide), if_neg (by rw [hK]; decide), if_neg (by rw [hK]; decide), if_neg (by rw [hK]; decide), if_pos hK]
  · rw [(x2.2.1 i (by omega)).2.2, hm, pm_0] <;> (rw [hK]; decide)
  · rw [x2.2.2.1]; unfold wF; rw [if_neg (by rw [hK]; decide), if_pos hK]
theorem tb_4 (hn : n ≤ 40) (hC : CR σ p n K F T) (hwf : wf K n) (hk : okK n K F T) (hi : i < n) (hK : K i = 4) (hw : (stC σ).2.1 i = w) (hm : (stC σ).2.2 i = 0) (hr : ∀ a, i < a → a < eN K i → dp K a = dp K i + 1 → rcOK p n K F T rc d a) : ∃ r σ', f_Tg_typeCall rc p (nI i) (nI d) σ = some (r, σ') ∧ TBK K F T i w r σ σ' := by
  have ha : ar (K i) = 2 := k_345 (Or.inr hK)
  obtain ⟨e1, e2, e3, e4, e5⟩ := wf_ar2 hwf hi ha
  obtain ⟨σ1, x1, x2⟩ := hr (i + 1) (by omega) (by omega) e4 0 σ (Or.inl rfl) hC
  obtain ⟨h, hh⟩ : ∃ h, h = H_ (stC σ1) i := ⟨_, rfl⟩
  have x1' : rc p (nI (i + 1)) 0 (nI (d + 1)) σ = some (h, σ1) := by rw [hh]; exact x1
  have hT : okT h := by rw [hh]; exact has_ok (x2.2.2.2 (i + 1) (Nat.le_refl _) (by omega)).1
  obtain ⟨w2, hw2⟩ : ∃ w2, w2 = if isF h then tkF h else 1 := ⟨_, rfl⟩
  have hw2k : okW w2 := by
    rw [hw2]
    by_cases z : isF h
    · rw [if_pos z]; exact Or.inr (s_taken hT z σ).2.2
    · rw [if_neg z]; exact Or.inr okT_1
  obtain ⟨σ2, y1, y2⟩ := hr (eN K (i + 1)) (by omega) e2 e5 w2 σ1 hw2k (CR_fr hC x2.1)
  obtain ⟨t1, t2, t3, t4, t5, t6, t7⟩ := two hwf hk hi ha x2 y2
  have t7' : H_ (stC σ2) i = h := by rw [t7, hh]
  -- the mark
  obtain ⟨σ3, e3'⟩ : ∃ s, s = if h = 2 then sI σ2 6 i 2 else σ2 := ⟨_, rfl⟩
  have f3 : fr cT σ2 σ3 := by
    rw [e3']
    by_cases z : h = 2
    · rw [if_pos z]; exact fr_6 _ _ _
    · rw [if_neg z]; exact fr_rf _ _
  have s3 : ∀ j, j ≠ i → sm (stC σ3) (stC σ2) j := fun j hj => by
    rw [e3']
    by_cases z : h = 2
    · rw [if_pos z]; exact sm_6 hj
    · rw [if_neg z]; exact sm_rf _ _
  have w3 : (stC σ3).2.1 i = w := by
    rw [e3']
    by_cases z : h = 2
    · rw [if_pos z, st_6]
      show (stC σ2).2.1 i = w
      rw [(t2 i (by omega)).2.1]; exact hw
    · rw [if_neg z, (t2 i (by omega)).2.1]; exact hw
  have m3 : (stC σ3).2.2 i = if h = 2 then 2 else 0 := by
    rw [e3']
    by_cases z : h = 2
    · rw [if_pos z, if_pos z, st_6]
      exact pk_us
    · rw [if_neg z, if_neg z, (t2 i (by omega)).2.2]; exact hm
  have H3 : H_ (stC σ3) i = h := by rw [H_sm (s3 (i + 1) (by omega)), t7']
  obtain ⟨r, hr'⟩ : ∃ r, r = if isF h then gvF h else 1 := ⟨_, rfl⟩
  have J73 : f_Tg_typeCall_J73 rc p (nI i) (nI d) h (if isF h then 1 else 0) w2 σ3 = some (r, σ3) := by
    unfold f_Tg_typeCall_J73 f_Tg_typeCall_J87
    rw [hr']
    by_cases z : isF h
    · rw [if_pos z, if_neg (by decide), (s_given hT z σ3).1, bn_q, if_pos z]
    · rw [if_neg z, if_pos rfl, if_neg z]
  have J38 : f_Tg_typeCall_J38 rc p (nI i) (nI d) h (if isF h then 1 else 0) w2 σ1 = some (r, σ3) := by
    unfold f_Tg_typeCall_J38
    rw [pt_2 hn (CR_fr hC x2.1) hwf hi ha, bn_q, nI_1, y1, bn_q]
    by_cases z : h = 2
    · rw [if_pos z] at e3'
      rw [if_pos (cmp0.mpr z), gd_t (inb_nI (by omega) (by decide)), nI_cl (by omega)]
      simp only [lt_]
      rw [← e3', J73]
    · rw [if_neg z] at e3'
      rw [if_neg (fun q => z (cmp0.mp q)), ← e3', J73]
  refine ⟨r, σ3, ?_, fr_tr t1 f3, fun j hj => sm_tr (s3 j (by have := (wf_at hwf hi).2.1; omega)) (t2 j (by omega)), w3, ?_, ?_, fun _ => ⟨?_, ?_⟩, fun _ => ⟨?_, ?_⟩⟩
  · unfold f_Tg_typeCall
    rw [pt_1 hn hC hwf hi (by omega), bn_q, nI_1, x1', bn_q, s_Ty_isFrom, bn_q]
    by_cases z : isF h
    · rw [if_pos z] at hw2
      rw [if_pos z] at J38
      rw [if_pos z, if_neg (by decide), (s_taken hT z σ1).1, bn_q, ← hw2, J38]
    · rw [if_neg z] at hw2
      rw [if_neg z] at J38
      rw [if_neg z, if_pos rfl, ← hw2, J38]
  · rw [H3, hr', gF_4 hK]
  · rw [m3, H3, pm_4 hK]
  · rw [(s3 (i + 1) (by omega)).2.1, t3, wF_40 hK]
  · exact LocI_sm hwf hk (by have := (wf_at hwf hi).2.2; omega) t4 (fun j h1 h2 => s3 j (by omega))
  · rw [(s3 (eN K (i + 1)) (by omega)).2.1, t5, H3, hw2, wF_41 hK]
  · have := LocI_sm hwf hk (i := eN K (i + 1)) (by have := (wf_at hwf hi).2.2; omega) (by rw [e3]; exact t6) (fun j h1 h2 => s3 j (by omega))
    rw [e3] at this
    exact this
theorem tb_5 (hn : n ≤ 40) (hC : CR σ p n K F T) (hwf : wf K n) (hk : okK n K F T) (hi : i < n) (hK : K i = 5) (hwk : okW w) (hw : (stC σ).2.1 i = w) (hm : (stC σ).2.2 i = 0) (hr : ∀ a, i < a → a < eN K i → dp K a = dp K i + 1 → rcOK p n K F T rc d a) : ∃ r σ', f_Tg_typeFunction rc p (nI i) w (nI d) σ = some (r, σ') ∧ TBK K F T i w r σ σ' := by
  have ha : ar (K i) = 1 := by rw [hK]; rfl
  obtain ⟨e1, e2, e3⟩ := wf_ar1 hwf hi ha
  have eT : σ.2 (cPt p) i = T i := (hC.2 i hi).2.2.2 (Or.inl hK)
  have hTi : okT (T i) := (hk i hi).2.2.2 (Or.inl hK)
  -- the mark comes first
  obtain ⟨σ0, e0⟩ : ∃ s, s = if isF w ∧ cnF (T i) (tkF w) = 0 then sI σ 6 i 3 else σ := ⟨_, rfl⟩
  have f0 : fr cT σ σ0 := by
    rw [e0]
    by_cases z : isF w ∧ cnF (T i) (tkF w) = 0
    · rw [if_pos z]; exact fr_6 _ _ _
    · rw [if_neg z]; exact fr_rf _ _
  have s0 : ∀ j, j ≠ i → sm (stC σ0) (stC σ) j := fun j hj => by
    rw [e0]
    by_cases z : isF w ∧ cnF (T i) (tkF w) = 0
    · rw [if_pos z]; exact sm_6 hj
    · rw [if_neg z]; exact sm_rf _ _
  have w0 : (stC σ0).2.1 i = w := by
    rw [e0]
    by_cases z : isF w ∧ cnF (T i) (tkF w) = 0
    · rw [if_pos z, st_6]; exact hw
    · rw [if_neg z]; exact hw
  have m0 : (stC σ0).2.2 i = if isF w ∧ cnF (T i) (tkF w) = 0 then 3 else 0 := by
    rw [e0]
    by_cases z : isF w ∧ cnF (T i) (tkF w) = 0
    · rw [if_pos z, if_pos z, st_6]; exact pk_us
    · rw [if_neg z, if_neg z]; exact hm
  obtain ⟨wb, hwb⟩ : ∃ b, b = if isF w then gvF w else if w = 1 then 1 else 0 := ⟨_, rfl⟩
  have hwbk : okW wb := by
    rw [hwb]
    by_cases z : isF w
    · rw [if_pos z]; exact Or.inr (s_given (okW_F hwk z) z σ).2.2
    · rw [if_neg z]
      by_cases y : w = 1
      · rw [if_pos y]; exact Or.inr okT_1
      · rw [if_neg y]; exact Or.inl rfl
  obtain ⟨σ1, x1, x2⟩ := hr (i + 1) (by omega) (by omega) e3 wb σ0 hwbk (CR_fr hC f0)
  obtain ⟨h, hh⟩ : ∃ h, h = H_ (stC σ1) i := ⟨_, rfl⟩
  have x1' : rc p (nI (i + 1)) wb (nI (d + 1)) σ0 = some (h, σ1) := by rw [hh]; exact x1
  have hT : okT h := by rw [hh]; exact has_ok (x2.2.2.2 (i + 1) (Nat.le_refl _) (by omega)).1
  have J54 : f_Tg_typeFunction_J54 rc p (nI i) w (nI d) (T i) wb σ0 = some (frF (T i) h, σ1) := by
    unfold f_Tg_typeFunction_J54
    rw [pt_1 hn (CR_fr hC f0) hwf hi (by omega), bn_q, nI_1, x1', bn_q, (s_from hTi hT σ1).1, bn_q]
  have J19 : f_Tg_typeFunction_J19 rc p (nI i) w (nI d) (T i) (if w = 1 then 1 else 0) σ = some (frF (T i) h, σ1) := by
    unfold f_Tg_typeFunction_J19
    rw [s_Ty_isFrom, bn_q]
    by_cases z : isF w
    · have hwT := okW_F hwk z
      rw [if_pos z] at hwb
      rw [if_pos z, if_neg (by decide), (s_given hwT z σ).1, bn_q, (s_taken hwT z σ).1, bn_q, (s_cons hTi (s_taken hwT z σ).2.2 σ).1, bn_q, ← hwb]
      by_cases y : cnF (T i) (tkF w) = 0
      · rw [if_pos ⟨z, y⟩] at e0
        rw [if_pos y, gd_t (inb_nI (by omega) (by decide)), nI_cl (by omega)]
        simp only [lt_]
        rw [← e0, J54]
      · rw [if_neg (fun q => y q.2)] at e0
        rw [if_neg y, ← e0, J54]
    · rw [if_neg z] at hwb
      rw [if_neg (fun q => z q.1)] at e0
      rw [if_neg z, if_pos rfl, ← hwb, ← e0, J54]
  refine ⟨frF (T i) h, σ1, ?_, fr_tr f0 x2.1, fun j hj => sm_tr (x2.2.1 j (by omega)) (s0 j (by have := (wf_at hwf hi).2.1; omega)), ?_, ?_, ?_, fun _ => ⟨?_, x2.2.2.2⟩, fun z => by omega⟩
  · unfold f_Tg_typeFunction
    simp only [lt_]
    rw [gd_t (inb_nI (by omega) (by decide)), nI_cl (by omega), eT]
    by_cases y : w = 1
    · rw [if_pos y] at J19
      rw [if_pos (cmp0.mpr y), J19]
    · rw [if_neg y] at J19
      rw [if_neg (fun q => y (cmp0.mp q)), J19]
  · rw [(x2.2.1 i (by omega)).2.1]; exact w0
  · rw [← hh, gF_5 hK]
  · rw [(x2.2.1 i (by omega)).2.2, m0]
    unfold pm
    rw [if_neg (show ¬ (K i = 2 ∧ bd K F i i = none) from fun z => by rw [hK] at z; exact absurd z.1 (by decide)), if_neg (show ¬ (K i = 4 ∧ H_ (stC σ1) i = 2) from fun z => by rw [hK] at z; exact absurd z.1 (by decide))]
    by_cases z : isF w ∧ cnF (T i) (tkF w) = 0
    · rw [if_pos z, if_pos ⟨hK, z⟩]
    · rw [if_neg z, if_neg (fun q => z q.2)]
  · rw [x2.2.2.1, hwb, wF_5 hK]
end CTYPE
