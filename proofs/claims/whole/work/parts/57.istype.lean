/-! symbols, behind, isType -/
def rs (o : Option Nat) (z : Int32) : Int32 := match o with
  | none => z
  | some m => nI m
theorem add_m1 {r : Nat} (h : 0 < r) : nI r + (-1) = nI (r - 1) := sb_m1 h
theorem dg_3 {u i : Nat} : nI (dg u i) = 3 ↔ dg u i = 3 := nI_eq (b := 3) (by have := dg_lt u i; omega) (by decide)
theorem dg_0 {u i : Nat} : nI (dg u i) = 0 ↔ dg u i = 0 := nI_eq (b := 0) (by have := dg_lt u i; omega) (by decide)
theorem dg_1 {u i : Nat} : nI (dg u i) = 1 ↔ dg u i = 1 := nI_eq (b := 1) (by have := dg_lt u i; omega) (by decide)
theorem nI_le0 {r : Nat} (hr : r < 2 ^ 31) : nI r ≤ 0 ↔ r = 0 := by
  have h : nI r ≤ nI 0 ↔ r ≤ 0 := nIle hr (by decide)
  exact ⟨fun q => by have := h.mp q; omega, fun q => h.mpr (by omega)⟩
theorem s_Ty_symbols {u : Nat} (hu : u < 2 ^ 64) (σ : Mem) : f_Ty_symbols (lN u) σ = some (rs (sc (dg u) 27 1 0) 0, σ) := by
  have key : ∀ (g r i : Nat), i + g = 27 → r < 100 - g → loopF (fun (q : (Int32 × Int32 × Mem)) => f_Ty_symbols_L4 (lN u) q.1 q.2.1 q.2.2) (g + 1) (nI r, nI i, σ) = some (rs (sc (dg u) g r i) 0, σ) := by
    intro g
    induction g with
    | zero =>
      intro r i hi hr
      obtain rfl : i = 27 := by omega
      refine lp_exit ?_
      show f_Ty_symbols_L4 (lN u) (nI r) (nI 27) σ = _
      unfold f_Ty_symbols_L4 f_Ty_symbols_J51 f_Ty_symbols_J60 sc
      by_cases h0 : r = 0
      · subst h0
        rw [if_pos (by decide), if_pos (by decide), if_pos rfl]
        rfl
      · rw [if_neg (fun q => h0 ((nI_le0 (by omega)).mp q)), if_pos (by decide), if_neg (nI_ne0 (by omega) (by omega)), if_neg h0]
        rfl
    | succ g ih =>
      intro r i hi hr
      by_cases h0 : r = 0
      · subst h0
        rw [sc_0]
        refine lp_exit ?_
        show f_Ty_symbols_L4 (lN u) (nI 0) (nI i) σ = _
        unfold f_Ty_symbols_L4 f_Ty_symbols_J51 f_Ty_symbols_J60
        rw [if_pos (by decide), if_pos (by decide)]
        rfl
      · have hb : f_Ty_symbols_L4 (lN u) (nI r) (nI i) σ = if dg u i = 0 then some (.inr (0, σ)) else some (.inl (nI (if dg u i = 3 then r + 1 else r - 1), nI (i + 1), σ)) := by
          unfold f_Ty_symbols_L4 f_Ty_symbols_J43
          rw [if_neg (fun q => h0 ((nI_le0 (by omega)).mp q)), if_neg (show ¬ (27 : Int32) ≤ nI i from fun q => by have := (nIle (a := 27) (by omega) (by omega)).mp q; omega), ds_c hu (by omega)]
          simp only [lt_]
          by_cases q0 : dg u i = 0
          · rw [if_pos (dg_0.mpr q0), if_pos q0]
            rfl
          · rw [if_neg (fun q => q0 (dg_0.mp q)), if_neg q0]
            by_cases q3 : dg u i = 3
            · rw [if_pos (dg_3.mpr q3), if_pos q3, nI_1, nI_1]
            · rw [if_neg (fun q => q3 (dg_3.mp q)), if_neg q3, add_m1 (by omega), nI_1]
        unfold sc
        rw [if_neg h0]
        by_cases q0 : dg u i = 0
        · rw [if_pos q0] at hb ⊢
          exact lp_exit hb
        · rw [if_neg q0] at hb ⊢
          refine lp_step hb (ih _ (i + 1) (by omega) ?_)
          split <;> omega
  unfold f_Ty_symbols
  simp only [lt_]
  exact lp_FU (key 27 1 0 (by decide) (by decide)) (by decide)
theorem s_Mo_symbol {u : Nat} (hu : u < 2 ^ 64) {k : Nat} (hk : k < 32) (σ : Mem) : f_Mo_symbol (lN u) (nI k) σ = some (nI (dg u k), σ) := by
  unfold f_Mo_symbol f_Mo_symbol_J20
  rw [if_pos (show nI k ≤ (31 : Int32) from (nIle (b := 31) (by omega) (by omega)).mpr (by omega)), ds_m hu hk]
theorem s_Mo_behind {u : Nat} (hu : u < 2 ^ 64) {k : Nat} (hk : k ≤ 28) (σ : Mem) : f_Mo_behind (lN u) (nI k) σ = some (rs (sc (dg u) (28 - k) 1 k) 99, σ) := by
  have key : ∀ (g r i : Nat), i + g = 28 → r < 100 - g → loopF (fun (q : (Int32 × Int32 × Mem)) => f_Mo_behind_L5 (lN u) (nI k) q.1 q.2.1 q.2.2) (g + 1) (nI r, nI i, σ) = some (rs (sc (dg u) g r i) 99, σ) := by
    intro g
    induction g with
    | zero =>
      intro r i hi hr
      obtain rfl : i = 28 := by omega
      refine lp_exit ?_
      show f_Mo_behind_L5 (lN u) (nI k) (nI r) (nI 28) σ = _
      unfold f_Mo_behind_L5 f_Mo_behind_J29 sc
      by_cases h0 : r = 0
      · subst h0
        rw [if_pos (by decide), if_pos rfl]
        rfl
      · rw [if_neg (fun q => h0 ((nI_le0 (by omega)).mp q)), if_neg h0, s_Mo_symbol hu (by decide), bn_q]
        by_cases q0 : nI (dg u 28) = 0
        · rw [if_pos q0]
          rfl
        · rw [if_neg q0, if_neg (by decide)]
          rfl
    | succ g ih =>
      intro r i hi hr
      by_cases h0 : r = 0
      · subst h0
        rw [sc_0]
        refine lp_exit ?_
        show f_Mo_behind_L5 (lN u) (nI k) (nI 0) (nI i) σ = _
        unfold f_Mo_behind_L5
        rw [if_pos (by decide)]
        rfl
      · have hb : f_Mo_behind_L5 (lN u) (nI k) (nI r) (nI i) σ = if dg u i = 0 then some (.inr (99, σ)) else some (.inl (nI (if dg u i = 3 then r + 1 else r - 1), nI (i + 1), σ)) := by
          unfold f_Mo_behind_L5 f_Mo_behind_J29 f_Mo_behind_J44
          rw [if_neg (fun q => h0 ((nI_le0 (by omega)).mp q)), s_Mo_symbol hu (by omega), bn_q]
          simp only [lt_]
          by_cases q0 : dg u i = 0
          · rw [if_pos (dg_0.mpr q0), if_pos q0]
            rfl
          · rw [if_neg (fun q => q0 (dg_0.mp q)), if_neg q0, if_pos (show nI i ≤ (27 : Int32) from (nIle (b := 27) (by omega) (by omega)).mpr (by omega))]
            by_cases q3 : dg u i = 3
            · rw [if_pos (dg_3.mpr q3), if_pos q3, nI_1, nI_1]
            · rw [if_neg (fun q => q3 (dg_3.mp q)), if_neg q3, add_m1 (by omega), nI_1]
        unfold sc
        rw [if_neg h0]
        by_cases q0 : dg u i = 0
        · rw [if_pos q0] at hb ⊢
          exact lp_exit hb
        · rw [if_neg q0] at hb ⊢
          refine lp_step hb (ih _ (i + 1) (by omega) ?_)
          split <;> omega
  unfold f_Mo_behind
  simp only [lt_]
  exact lp_FU (key (28 - k) 1 k (by omega) (by omega)) (by omega)
theorem sc_ty {d : Nat → Nat} {g i m : Nat} : sc d g 1 i = some m ↔ tyE d (m - i) i = some m ∧ m ≤ i + g := by
  constructor
  · intro h
    obtain ⟨e1, a1, a2, a3⟩ := of_sc g 0 i m h
    rw [sc_0] at a3
    obtain rfl := Option.some.inj a3
    exact ⟨a1, a2⟩
  · intro h
    exact sc_of h.1 (by omega) (sc_0 _ _ _)
theorem dgt_lN {u : Nat} (hu : u < 2 ^ 64) : dgt (lN u) = dg u := by
  funext k
  unfold dgt dg
  rw [wb_tn hu]
theorem okT_iff {u : Nat} (hu : u < 2 ^ 64) : okT (lN u) ↔ ∃ m, m ≤ 27 ∧ sc (dg u) 27 1 0 = some m ∧ u < 4 ^ m := by
  unfold okT
  rw [dgt_lN hu, wb_tn hu]
  constructor
  · rintro ⟨m, h1, h2, h3⟩
    exact ⟨m, h1, sc_ty.mpr ⟨tyE_fuel h2, by omega⟩, h3⟩
  · rintro ⟨m, h1, h2, h3⟩
    exact ⟨m, h1, tyE_mono (sc_ty.mp h2).1 (by omega), h3⟩
theorem cmp0 {x y : Int64} : lg_cmp x y = 0 ↔ x = y := by
  unfold lg_cmp
  constructor
  · intro h
    by_cases h1 : x > y
    · rw [if_pos h1] at h; exact absurd h (by decide)
    · rw [if_neg h1] at h
      by_cases h2 : x = y
      · exact h2
      · rw [if_neg h2] at h; exact absurd h (by decide)
  · intro h
    subst h
    exact s_cmp x
theorem lN0 {n : Nat} (hn : n < 2 ^ 64) : lN n = 0 ↔ n = 0 := by
  constructor
  · intro h
    have h1 : (lN n).toBitVec.toNat = (lN 0).toBitVec.toNat := by rw [h]; rfl
    rw [wb_tn hn, wb_tn (by decide)] at h1
    exact h1
  · intro h
    subst h
    rfl
theorem shr0_c {u m : Nat} (hu : u < 2 ^ 64) (hm : m ≤ 27) : ((lN u).toUInt64 >>> (((2 : Int32) * nI m).toInt64.toUInt64 &&& Int64.toUInt64 63)).toInt64 = 0 ↔ u < 4 ^ m := by
  rw [two_nI, wb_shr hu (by omega), p4, lN0 (Nat.lt_of_le_of_lt (Nat.div_le_self _ _) hu)]
  have hp : 0 < 4 ^ m := Nat.pow_pos (by decide)
  rw [Nat.div_eq_zero_iff]
  omega
theorem shr0_m {u m : Nat} (hu : u < 2 ^ 64) (hm : m ≤ 27) : (lN u) >>> (((2 : Int32) * nI m).toInt64 &&& 63) = 0 ↔ u < 4 ^ m := by
  rw [two_nI, wb_c (2 * m) (by omega)]
  have hp : 4 ^ m ≤ 4 ^ 27 := Nat.pow_le_pow_right (by decide) hm
  have hp0 : 0 < 4 ^ m := Nat.pow_pos (by decide)
  have e1 : (lN u >>> lN (2 * m)).toInt = (lN u).toInt >>> (2 * m) := by
    show (lN u >>> lN (2 * m)).toBitVec.toInt = _
    rw [Int64.toBitVec_shiftRight, wb_tb (2 * m), wb_sm (2 * m) (by omega), BitVec.sshiftRight'_ofNat_eq_sshiftRight, Nat.mod_eq_of_lt (by omega), BitVec.toInt_sshiftRight]
    rfl
  have e2 : (lN u).toInt = if u < 2 ^ 63 then (u : Int) else (u : Int) - 2 ^ 64 := by
    show (BitVec.ofNat 64 u).toInt = _
    rw [BitVec.toInt_eq_toNat_cond, BitVec.toNat_ofNat, Nat.mod_eq_of_lt hu]
    by_cases q : u < 2 ^ 63
    · rw [if_pos (by omega), if_pos q]
    · rw [if_neg (by omega), if_neg q]
      rfl
  rw [← Int64.toInt_inj, e1, e2, Int.shiftRight_eq_div_pow, p4]
  show _ = (0 : Int) ↔ _
  by_cases q : u < 2 ^ 63
  · rw [if_pos q, ← Int.natCast_ediv]
    constructor
    · intro h
      have h2 : u / 4 ^ m = 0 := by exact_mod_cast h
      rw [Nat.div_eq_zero_iff] at h2
      omega
    · intro h
      rw [Nat.div_eq_of_lt h]
      rfl
  · rw [if_neg q]
    constructor
    · intro h
      exfalso
      have h3 : ((u : Int) - 2 ^ 64) / ((4 ^ m : Nat) : Int) < 0 := Int.ediv_neg_of_neg_of_pos (by omega) (by omega)
      omega
    · intro h
      exfalso
      have : (4 : Nat) ^ 27 < 2 ^ 63 := by decide
      omega
theorem s_Ty_isType {u : Nat} (hu : u < 2 ^ 64) (σ : Mem) : (okT (lN u) → f_Ty_isType (lN u) σ = some (1, σ)) ∧ (¬ okT (lN u) → f_Ty_isType (lN u) σ = some (0, σ)) := by
  have base : f_Ty_isType (lN u) σ = (if rs (sc (dg u) 27 1 0) 0 ≤ 0 then some (0, σ) else if lg_cmp (((lN u).toUInt64 >>> (((2 : Int32) * rs (sc (dg u) 27 1 0) 0).toInt64.toUInt64 &&& Int64.toUInt64 63)).toInt64) 0 = 0 then some (1, σ) else some (0, σ)) := by
    unfold f_Ty_isType f_Ty_isType_J23 f_Ty_isType_J24
    rw [s_Ty_symbols hu, bn_q]
    rfl
  rw [base, okT_iff hu]
  cases h : sc (dg u) 27 1 0 with
  | none =>
    refine ⟨fun ⟨m, _, q, _⟩ => (by cases q), fun _ => ?_⟩
    show (if (0 : Int32) ≤ 0 then _ else _) = _
    rw [if_pos (by decide)]
  | some m =>
    have hm := (sc_ty.mp h).2
    have hm0 := tyE_lt (sc_ty.mp h).1
    show (_ → (if nI m ≤ 0 then _ else if lg_cmp (((lN u).toUInt64 >>> (((2 : Int32) * nI m).toInt64.toUInt64 &&& Int64.toUInt64 63)).toInt64) 0 = 0 then _ else _) = _) ∧ (_ → (if nI m ≤ 0 then _ else if lg_cmp (((lN u).toUInt64 >>> (((2 : Int32) * nI m).toInt64.toUInt64 &&& Int64.toUInt64 63)).toInt64) 0 = 0 then _ else _) = _)
    rw [if_neg (fun q => by have := (nI_le0 (by omega)).mp q; omega)]
    constructor
    · rintro ⟨m', h1, h2, h3⟩
      obtain rfl := Option.some.inj h2
      rw [if_pos (cmp0.mpr ((shr0_c hu (by omega)).mpr h3))]
    · intro hno
      rw [if_neg (fun q => hno ⟨m, by omega, rfl, (shr0_c hu (by omega)).mp (cmp0.mp q)⟩)]
theorem s_Mo_isType {u : Nat} (hu : u < 2 ^ 64) (σ : Mem) : (okT (lN u) → f_Mo_isType (lN u) σ = some (1, σ)) ∧ (¬ okT (lN u) → f_Mo_isType (lN u) σ = some (0, σ)) := by
  have base : f_Mo_isType (lN u) σ = (if (27 : Int32) < rs (sc (dg u) 28 1 0) 99 then some (0, σ) else if lg_cmp ((lN u) >>> (((2 : Int32) * rs (sc (dg u) 28 1 0) 99).toInt64 &&& 63)) 0 = 0 then some (1, σ) else some (0, σ)) := by
    unfold f_Mo_isType f_Mo_isType_J26 f_Mo_isType_J27
    have z0 : (0 : Int32) = nI 0 := rfl
    rw [z0, s_Mo_behind hu (by decide), bn_q]
    rfl
  rw [base, okT_iff hu]
  cases h : sc (dg u) 28 1 0 with
  | none =>
    refine ⟨fun ⟨m, h1, q, _⟩ => ?_, fun _ => ?_⟩
    · have := (sc_ty (g := 28)).mpr ⟨(sc_ty.mp q).1, by omega⟩
      rw [h] at this
      cases this
    · show (if (27 : Int32) < 99 then _ else _) = _
      rw [if_pos (by decide)]
  | some m =>
    have hm := (sc_ty.mp h).2
    have q27 : (27 : Int32) < nI m ↔ 27 < m := nIlt (a := 27) (by omega) (by omega)
    show (_ → (if (27 : Int32) < nI m then _ else if lg_cmp ((lN u) >>> (((2 : Int32) * nI m).toInt64 &&& 63)) 0 = 0 then _ else _) = _) ∧ (_ → (if (27 : Int32) < nI m then _ else if lg_cmp ((lN u) >>> (((2 : Int32) * nI m).toInt64 &&& 63)) 0 = 0 then _ else _) = _)
    constructor
    · rintro ⟨m', h1, h2, h3⟩
      have := (sc_ty (g := 28)).mpr ⟨(sc_ty.mp h2).1, by omega⟩
      rw [h] at this
      obtain rfl := Option.some.inj this
      rw [if_neg (fun q => by have := q27.mp q; omega), if_pos (cmp0.mpr ((shr0_m hu h1).mpr h3))]
    · intro hno
      by_cases q : 27 < m
      · rw [if_pos (q27.mpr q)]
      · rw [if_neg (fun z => q (q27.mp z)), if_neg (fun z => hno ⟨m, by omega, sc_ty.mpr ⟨(sc_ty.mp h).1, by omega⟩, (shr0_m hu (by omega)).mp (cmp0.mp z)⟩)]
