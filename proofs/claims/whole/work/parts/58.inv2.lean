/-! THE INVARIANT of both sides; calls that are taken, calls that are refused -/
abbrev TYt : Type := Nat → (Nat → Int32) → (Nat → Int32) → (Nat → Int64) → (Nat → Int64) → (Nat → Int64) → (Nat → Int32) → Prop
abbrev PCt : Type := Nat → (Nat → Int32) → (Nat → Int32) → (Nat → Int64) → (Nat → Int64) → (Nat → Int32) → (Nat → Int32) → Prop
abbrev PMt : Type := Nat → (Nat → Int32) → (Nat → Int32) → (Nat → Int64) → (Nat → Int32) → (Nat → Int32) → (Nat → Int32) → Int32 → Prop
def stale (x : Int32) (ch : Nat) : Prop := ∀ m, ch ≤ m → m ≤ 1000 → x ≠ nI m
def TyI (TY : TYt) (σ : Mem) (A : Pg) (ch : Nat) : Prop := (stale (σ.1 3 3) ch ∧ σ.1 15 12 = 0) ∨ (σ.1 3 3 = nI ch ∧ TY A.1 A.2.2.1 A.2.2.2.1 A.2.2.2.2 (σ.2 4) (σ.2 5) (σ.1 6) ∧ (σ.1 15 12 = 0 ∨ (σ.1 15 12 = 1 ∧ ∀ j, j < A.1 → σ.2 24 j = σ.2 4 j ∧ σ.2 25 j = σ.2 5 j ∧ σ.1 26 j = σ.1 6 j)))
def PgI (PC : PCt) (PM : PMt) (σ : Mem) (A : Pg) (ch : Nat) : Prop := (stale (σ.1 7 4) ch ∧ σ.1 15 16 = 0) ∨ (σ.1 7 4 = nI ch ∧ PC A.1 A.2.2.1 A.2.2.2.1 A.2.2.2.2 (σ.2 8) (σ.1 9) (σ.1 10) ∧ (σ.1 15 16 = 0 ∨ (σ.1 15 16 = 1 ∧ PM A.1 A.2.2.1 A.2.2.2.1 A.2.2.2.2 (σ.1 27) (σ.1 28) (σ.1 29) (σ.1 15 17))))
def NuI (σ : Mem) : Prop := σ.1 11 5 = σ.1 15 25 ∧ σ.1 11 4 = σ.1 15 24
def IV (TY : TYt) (PC : PCt) (PM : PMt) (σ : Mem) (A : Pg) (p kp pb ch : Nat) (Hs Ps : Nat → Pg) : Prop := oks A kp pb Hs Ps ∧ CV σ A p kp pb ch Hs Ps ∧ MV σ A kp pb Hs Ps ∧ TyI TY σ A ch ∧ PgI PC PM σ A ch ∧ NuI σ
def Inv (TY : TYt) (PC : PCt) (PM : PMt) (k : Nat) (σ : Mem) : Prop := ∃ A p kp pb ch Hs Ps, ch ≤ k ∧ IV TY PC PM σ A p kp pb ch Hs Ps
/-- both answer alike, and the invariant holds behind it -/
def Ok (TY : TYt) (PC : PCt) (PM : PMt) {α : Type} (k : Nat) (σ : Mem) (f g : Mem → Option (α × Mem)) : Prop := ∃ r σ1 σ2, f σ = some (r, σ1) ∧ g σ1 = some (r, σ2) ∧ Inv TY PC PM k σ2
theorem CV_fr {σ σ' : Mem} {A : Pg} {p kp pb ch : Nat} {Hs Ps : Nat → Pg} (h : CV σ A p kp pb ch Hs Ps) {S : Nat → Prop} (hf : fr S σ σ') (hS : ∀ c, cE c → ¬ S c) : CV σ' A p kp pb ch Hs Ps := by
  obtain ⟨h1, h2, h3, h4, h5, h6⟩ := h
  have q : ∀ {r : Nat} {B : Pg}, atC σ r B → atC σ' r B := fun hB => atC_fr hB hf (fun c hc => hS c (Or.inr (isP_ge hc)))
  refine ⟨h1, h2, ?_, q h4, fun j hj => q (h5 j hj), fun j hj => q (h6 j hj)⟩
  unfold atH
  rw [(hf 1 (hS 1 (Or.inl rfl))).1]
  exact h3
theorem atM_fr {σ σ' : Mem} {A : Pg} (h : atM σ A) {S : Nat → Prop} (hf : fr S σ σ') (hS : ∀ c, mE c → ¬ S c) : atM σ' A := by
  obtain ⟨h1, h2, h3⟩ := h
  have q : ∀ c, 15 ≤ c → c ≤ 23 → σ'.1 c = σ.1 c ∧ σ'.2 c = σ.2 c := fun c a b => hf c (hS c ⟨a, b⟩)
  refine ⟨by rw [(q 15 (by decide) (by decide)).1]; exact h1, by rw [(q 15 (by decide) (by decide)).1]; exact h2, ?_⟩
  unfold rowM
  rw [(q 16 (by decide) (by decide)).1, (q 17 (by decide) (by decide)).1, (q 18 (by decide) (by decide)).2]
  exact h3
theorem atS_fr {σ σ' : Mem} {s : Nat} {A : Pg} (h : atS σ s A) {S : Nat → Prop} (hf : fr S σ σ') (hS : ∀ c, mE c → ¬ S c) : atS σ' s A := by
  have q : ∀ c, 15 ≤ c → c ≤ 23 → σ'.1 c = σ.1 c ∧ σ'.2 c = σ.2 c := fun c a b => hf c (hS c ⟨a, b⟩)
  unfold atS
  rw [(q 19 (by decide) (by decide)).1, (q 20 (by decide) (by decide)).1, (q 21 (by decide) (by decide)).1, (q 22 (by decide) (by decide)).1, (q 23 (by decide) (by decide)).2]
  exact h
theorem MV_fr {σ σ' : Mem} {A : Pg} {kp pb : Nat} {Hs Ps : Nat → Pg} (h : MV σ A kp pb Hs Ps) {S : Nat → Prop} (hf : fr S σ σ') (hS : ∀ c, mE c → ¬ S c) : MV σ' A kp pb Hs Ps := by
  obtain ⟨h1, h2, h3, h4, h5⟩ := h
  have q := (hf 15 (hS 15 ⟨by decide, by decide⟩)).1
  exact ⟨atM_fr h1 hf hS, by rw [q]; exact h2, by rw [q]; exact h3, fun j hj => atS_fr (h4 j hj) hf hS, fun j hj => atS_fr (h5 j hj) hf hS⟩
theorem cE_mE (c : Nat) (h : cE c) : ¬ mE c := by unfold cE at h; unfold mE; omega
theorem mE_cE (c : Nat) (h : mE c) : ¬ cE c := fun q => cE_mE c q h
theorem stale_s {x : Int32} {ch : Nat} (h : stale x ch) : stale x (ch + 1) := fun m a b => h m (by omega) b
theorem stale_i {ch : Nat} (hch : ch ≤ 1000) : stale (nI ch) (ch + 1) := fun m a b e => by
  have := (nI_eq (a := ch) (b := m) (by omega) (by omega)).mp e
  omega
section IVS
variable {TY : TYt} {PC : PCt} {PM : PMt} {σ : Mem} {A A' : Pg} {p kp pb ch : Nat} {Hs Ps : Nat → Pg}
/-- caches behind a change of the program -/
theorem ca_yes {σ' : Mem} {p' kp' pb' : Nat} {Hs' Ps' : Nat → Pg} (h : IV TY PC PM σ A p kp pb ch Hs Ps) (hch : ch ≤ 1000) (hf : ∀ c, c = 3 ∨ c = 7 ∨ c = 11 → σ'.1 c = σ.1 c) (h12 : σ'.1 15 12 = 0) (h16 : σ'.1 15 16 = 0) (h25 : σ'.1 15 25 = σ.1 15 25) (h24 : σ'.1 15 24 = σ.1 15 24) (ho : oks A' kp' pb' Hs' Ps') (hC : CV σ' A' p' kp' pb' (ch + 1) Hs' Ps') (hM : MV σ' A' kp' pb' Hs' Ps') : IV TY PC PM σ' A' p' kp' pb' (ch + 1) Hs' Ps' := by
  obtain ⟨_, _, _, h4, h5, h6⟩ := h
  have f3 := hf 3 (Or.inl rfl)
  have f7 := hf 7 (Or.inr (Or.inl rfl))
  have f11 := hf 11 (Or.inr (Or.inr rfl))
  refine ⟨ho, hC, hM, Or.inl ⟨?_, h12⟩, Or.inl ⟨?_, h16⟩, ?_, ?_⟩
  · rw [f3]
    rcases h4 with q | q
    · exact stale_s q.1
    · rw [q.1]; exact stale_i hch
  · rw [f7]
    rcases h5 with q | q
    · exact stale_s q.1
    · rw [q.1]; exact stale_i hch
  · rw [f11, h25]; exact h6.1
  · rw [f11, h24]; exact h6.2
/-- caches behind a refused edit of the reference -/
theorem ca_no {σ' : Mem} (h : IV TY PC PM σ A p kp pb ch Hs Ps) (hf : fr mE σ σ') (h12 : σ'.1 15 12 = 0) (h16 : σ'.1 15 16 = 0) (h25 : σ'.1 15 25 = σ.1 15 25) (h24 : σ'.1 15 24 = σ.1 15 24) (hM : MV σ' A kp pb Hs Ps) : IV TY PC PM σ' A p kp pb ch Hs Ps := by
  obtain ⟨h1, h2, _, h4, h5, h6⟩ := h
  have f : ∀ c, c < 15 → σ'.1 c = σ.1 c ∧ σ'.2 c = σ.2 c := fun c hc => hf c (by unfold mE; omega)
  refine ⟨h1, CV_fr h2 hf cE_mE, hM, ?_, ?_, ?_, ?_⟩
  · unfold TyI
    rw [(f 3 (by decide)).1, (f 4 (by decide)).2, (f 5 (by decide)).2, (f 6 (by decide)).1]
    rcases h4 with q | q
    · exact Or.inl ⟨q.1, h12⟩
    · exact Or.inr ⟨q.1, q.2.1, Or.inl h12⟩
  · unfold PgI
    rw [(f 7 (by decide)).1, (f 8 (by decide)).2, (f 9 (by decide)).1, (f 10 (by decide)).1]
    rcases h5 with q | q
    · exact Or.inl ⟨q.1, h16⟩
    · exact Or.inr ⟨q.1, q.2.1, Or.inl h16⟩
  · rw [(f 11 (by decide)).1, h25]; exact h6.1
  · rw [(f 11 (by decide)).1, h24]; exact h6.2
/-- an edit that both take -/
theorem IV_yes (h : IV TY PC PM σ A p kp pb ch Hs Ps) (hch : ch < 1000) (hA' : okP A') {op : Nat → Mem → Option (Unit × Mem)} {mop : Mem → Option (Int32 × Mem)} (hop : ∀ σ1, atC σ1 ((p + 1) % 17) A → ∃ σ2, op ((p + 1) % 17) σ1 = some ((), σ2) ∧ fr (isP ((p + 1) % 17)) σ1 σ2 ∧ atC σ2 ((p + 1) % 17) A') (hmop : ∀ σ2, MV σ2 A kp pb Hs Ps → ∃ σ4, mop σ2 = some (1, σ4) ∧ fr mE σ2 σ4 ∧ MV σ4 A' (min (kp + 1) 16) 0 (push kp Hs A) Ps ∧ σ4.1 15 12 = 0 ∧ σ4.1 15 16 = 0 ∧ ∀ q, q ≠ 0 → q ≠ 5 → q ≠ 6 → q ≠ 1 → q ≠ 12 → q ≠ 16 → σ4.1 15 q = σ2.1 15 q) : ∃ σ1 σ2 σ4, f_Hi_keep σ = some ((p + 1) % 17, σ1) ∧ op ((p + 1) % 17) σ1 = some ((), σ2) ∧ mop σ2 = some (1, σ4) ∧ IV TY PC PM σ4 A' ((p + 1) % 17) (min (kp + 1) 16) 0 (ch + 1) (push kp Hs A) Ps := by
  obtain ⟨h1, h2, h3, h4, h5, h6⟩ := id h
  obtain ⟨σ1, σ2, a1, a2, a3, a4⟩ := CV_edit h2 h1.1.2.1 hch hop
  obtain ⟨σ4, b1, b2, b3, b4, b5, b6⟩ := hmop σ2 (MV_fr h3 a3 mE_cE)
  have f15 : σ2.1 15 = σ.1 15 := (a3 15 (by unfold cE; omega)).1
  refine ⟨σ1, σ2, σ4, a1, a2, b1, ca_yes h (by omega) (fun c hc => ?_) b4 b5 ?_ ?_ (oks_push h1 (by have := h2.2.1; omega) hA') (CV_fr a4 b2 cE_mE) b3⟩
  · rw [(b2 c (by unfold mE; omega)).1, (a3 c (by unfold cE; omega)).1]
  · rw [b6 25 (by decide) (by decide) (by decide) (by decide) (by decide) (by decide), f15]
  · rw [b6 24 (by decide) (by decide) (by decide) (by decide) (by decide) (by decide), f15]
/-- an edit that both refuse, the reference behind having tried it -/
theorem IV_no (h : IV TY PC PM σ A p kp pb ch Hs Ps) {mop : Mem → Option (Int32 × Mem)} (hmop : ∃ σ4, mop σ = some (0, σ4) ∧ fr mE σ σ4 ∧ MV σ4 A kp pb Hs Ps ∧ σ4.1 15 12 = 0 ∧ σ4.1 15 16 = 0 ∧ ∀ q, q ≠ 0 → q ≠ 1 → q ≠ 12 → q ≠ 16 → σ4.1 15 q = σ.1 15 q) : ∃ σ4, mop σ = some (0, σ4) ∧ IV TY PC PM σ4 A p kp pb ch Hs Ps := by
  obtain ⟨σ4, b1, b2, b3, b4, b5, b6⟩ := hmop
  exact ⟨σ4, b1, ca_no h b2 b4 b5 (b6 25 (by decide) (by decide) (by decide) (by decide)) (b6 24 (by decide) (by decide) (by decide) (by decide)) b3⟩
theorem Ok_same {α : Type} {k : Nat} {f g : Mem → Option (α × Mem)} {r : α} (h : Inv TY PC PM k σ) (hf : f σ = some (r, σ)) (hg : g σ = some (r, σ)) : Ok TY PC PM (k + 1) σ f g := by
  obtain ⟨A, p, kp, pb, ch, Hs, Ps, q, h⟩ := h
  exact ⟨r, σ, σ, hf, hg, A, p, kp, pb, ch, Hs, Ps, by omega, h⟩
/-- what the class looks at first -/
theorem IV_present (h : IV TY PC PM σ A p kp pb ch Hs Ps) : f_Hi_present σ = some (p, σ) := s_Hi_present h.2.1.2.2.1 h.2.1.1
theorem IV_p (h : IV TY PC PM σ A p kp pb ch Hs Ps) : decide (p < 17) = true := decide_eq_true h.2.1.1
end IVS
