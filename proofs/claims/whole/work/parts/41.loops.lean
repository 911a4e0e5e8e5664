/-! loops of pure code, forwards -/
theorem lp_step {α β : Type} {body : α → Option (α ⊕ β)} {a b : α} {z : β} {n : Nat} (h : body a = some (.inl b)) (h2 : loopF body n b = some z) : loopF body (n + 1) a = some z := by
  unfold loopF
  rw [h]
  exact h2
theorem lp_exit {α β : Type} {body : α → Option (α ⊕ β)} {a : α} {z : β} {n : Nat} (h : body a = some (.inr z)) : loopF body (n + 1) a = some z := by
  unfold loopF
  rw [h]
theorem lp_mono {α β : Type} {body : α → Option (α ⊕ β)} {z : β} : ∀ {n : Nat} {a : α}, loopF body n a = some z → ∀ {m : Nat}, n ≤ m → loopF body m a = some z := by
  intro n
  induction n with
  | zero => intro a h; exact (loopF_zero h).elim
  | succ n ih =>
    intro a h m hm
    obtain ⟨m', rfl⟩ : ∃ m', m = m' + 1 := ⟨m - 1, by omega⟩
    obtain ⟨o, h1, h2, h3⟩ := loopF_succ h
    cases o with
    | inl b => exact lp_step h1 (ih (h2 b rfl) (by omega))
    | inr w => rw [h3 w rfl] at h1; exact lp_exit h1
theorem lp_FU {α β : Type} {body : α → Option (α ⊕ β)} {a : α} {z : β} {n : Nat} (h : loopF body n a = some z) (hn : n ≤ 5000) : loopF body FU a = some z := lp_mono h hn
theorem gd_t {α : Type} {b : Bool} {x : Option α} (h : b = true) : gd b x = x := by rw [h]; rfl
theorem inb_nI {i n : Nat} (h : i < n) (hn : n < 2 ^ 31) : inb (nI i) n = true := by
  have h1 : vp_in (nI i) n := vp_in_nI h hn
  unfold vp_in at h1
  unfold inb
  simpa using h1
theorem nI_cl {n : Nat} (h : n < 2 ^ 31) : (nI n).toNatClampNeg = n := nI_clamp h
