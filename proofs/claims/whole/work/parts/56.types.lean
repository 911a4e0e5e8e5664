/-! ===== lN n to 2^64: shifts, and, or, masks, one bit ===== -/
theorem wb_tb (n : Nat) : (lN n).toBitVec = BitVec.ofNat 64 n := rfl
theorem wb_inj {a b : Int64} (h : a.toBitVec = b.toBitVec) : a = b := Int64.toBitVec_inj.mp h
theorem wb_tn {n : Nat} (h : n < 2 ^ 64) : (lN n).toBitVec.toNat = n := by rw [wb_tb, BitVec.toNat_ofNat, Nat.mod_eq_of_lt h]
theorem wb_of (x : Int64) : ∃ n, n < 2 ^ 64 ∧ x = lN n := ⟨x.toBitVec.toNat, x.toBitVec.isLt, wb_inj (by rw [wb_tb]; simp)⟩
theorem wb_of32 (x : Int32) : ∃ n, n < 2 ^ 32 ∧ x = nI n := ⟨x.toBitVec.toNat, x.toBitVec.isLt, Int32.toBitVec_inj.mp (by show _ = BitVec.ofNat 32 _; simp)⟩
theorem wb_c : ∀ k, k < 64 → ((nI k).toInt64 &&& 63) = lN k := by decide +kernel
theorem wb_cu : ∀ k, k < 64 → ((nI k).toInt64.toUInt64 &&& Int64.toUInt64 63) = UInt64.ofNat k := by decide +kernel
theorem wb_sm : ∀ k, k < 64 → (BitVec.ofNat 64 k).smod 64 = BitVec.ofNat 64 k := by decide +kernel
theorem wb_pw {a b : Nat} (h : a ≤ b) : 2 ^ b = 2 ^ a * 2 ^ (b - a) := by rw [← Nat.pow_add]; congr 1; omega
theorem wb_lt2 {a b : Nat} (h : a < b) : 2 ^ a < 2 ^ b := Nat.pow_lt_pow_right (by decide) h
theorem wb_mod (n : Nat) : lN n = lN (n % 2 ^ 64) := wb_inj (by rw [wb_tb, wb_tb]; apply BitVec.eq_of_toNat_eq; rw [BitVec.toNat_ofNat, BitVec.toNat_ofNat, Nat.mod_mod])
theorem wb_shr {n k : Nat} (hn : n < 2 ^ 64) (hk : k < 64) : ((lN n).toUInt64 >>> ((nI k).toInt64.toUInt64 &&& Int64.toUInt64 63)).toInt64 = lN (n / 2 ^ k) := by
  rw [wb_cu k hk]
  apply wb_inj
  apply BitVec.eq_of_toNat_eq
  show ((lN n).toUInt64 >>> UInt64.ofNat k).toNat = (BitVec.ofNat 64 _).toNat
  have h1 : (UInt64.ofNat k).toNat = k := by
    show (BitVec.ofNat 64 k).toNat = k
    rw [BitVec.toNat_ofNat, Nat.mod_eq_of_lt (by omega)]
  have h2 : (lN n).toUInt64.toNat = n := wb_tn hn
  rw [UInt64.toNat_shiftRight, h1, h2, Nat.mod_eq_of_lt hk, Nat.shiftRight_eq_div_pow, BitVec.toNat_ofNat, Nat.mod_eq_of_lt (Nat.lt_of_le_of_lt (Nat.div_le_self _ _) hn)]
theorem wb_shl (n : Nat) {k : Nat} (hk : k < 64) : lN n <<< ((nI k).toInt64 &&& 63) = lN (n * 2 ^ k) := by
  rw [wb_c k hk]
  apply wb_inj
  rw [Int64.toBitVec_shiftLeft, wb_tb, wb_tb, wb_tb, wb_sm k hk]
  apply BitVec.eq_of_toNat_eq
  rw [BitVec.shiftLeft_eq', BitVec.toNat_shiftLeft, BitVec.toNat_ofNat, BitVec.toNat_ofNat, BitVec.toNat_ofNat, Nat.mod_eq_of_lt (show k < 2 ^ 64 by omega), Nat.shiftLeft_eq, Nat.mul_mod, Nat.mod_mod, ← Nat.mul_mod]
theorem wb_and {a b : Nat} (ha : a < 2 ^ 64) (hb : b < 2 ^ 64) : lN a &&& lN b = lN (a &&& b) := by
  apply wb_inj
  rw [Int64.toBitVec_and, wb_tb, wb_tb, wb_tb]
  apply BitVec.eq_of_toNat_eq
  rw [BitVec.toNat_and, BitVec.toNat_ofNat, BitVec.toNat_ofNat, BitVec.toNat_ofNat, Nat.mod_eq_of_lt ha, Nat.mod_eq_of_lt hb, Nat.mod_eq_of_lt (Nat.and_lt_two_pow _ hb)]
theorem wb_or {a b : Nat} (ha : a < 2 ^ 64) (hb : b < 2 ^ 64) : lN a ||| lN b = lN (a ||| b) := by
  apply wb_inj
  rw [Int64.toBitVec_or, wb_tb, wb_tb, wb_tb]
  apply BitVec.eq_of_toNat_eq
  rw [BitVec.toNat_or, BitVec.toNat_ofNat, BitVec.toNat_ofNat, BitVec.toNat_ofNat, Nat.mod_eq_of_lt ha, Nat.mod_eq_of_lt hb, Nat.mod_eq_of_lt (Nat.or_lt_two_pow ha hb)]
theorem wb_mask {n k : Nat} (hn : n < 2 ^ 64) (hk : k < 64) : lN n &&& lN (2 ^ k - 1) = lN (n % 2 ^ k) := by
  rw [wb_and hn (by have := wb_lt2 hk; omega), Nat.and_two_pow_sub_one_eq_mod]
theorem wb_a1 {n : Nat} (hn : n < 2 ^ 64) : lN n &&& 1 = lN (n % 2) := wb_mask (k := 1) hn (by decide)
theorem wb_bit {n k : Nat} (hn : n < 2 ^ 64) (hk : k < 64) : ((lN n).toUInt64 >>> ((nI k).toInt64.toUInt64 &&& Int64.toUInt64 63)).toInt64 &&& 1 = lN (n / 2 ^ k % 2) := by
  rw [wb_shr hn hk, wb_a1 (Nat.lt_of_le_of_lt (Nat.div_le_self _ _) hn)]
/-! DIGITS: two bits a symbol (the rows wb_ above stand in kit/laws/BITS.to-paste) -/
def dg (u k : Nat) : Nat := u / 4 ^ k % 4
theorem p4 (k : Nat) : 2 ^ (2 * k) = 4 ^ k := by
  rw [Nat.pow_mul]
theorem dg_lt (u k : Nat) : dg u k < 4 := Nat.mod_lt _ (by decide)
theorem two_nI (k : Nat) : (2 : Int32) * nI k = nI (2 * k) := pk_mul 2 k
theorem nI_and3 (m : Nat) : nI m &&& 3 = nI (m % 4) := by
  have h := pk_and (nI m) (m := 3) 2 (by decide)
  rw [h]
  have e : (nI m).toBitVec.toNat = m % 2 ^ 32 := by
    show (BitVec.ofNat 32 m).toNat = _
    rw [BitVec.toNat_ofNat]
  rw [e]
  congr 1
  omega
theorem ds_c {u : Nat} (hu : u < 2 ^ 64) {k : Nat} (hk : k < 32) : (((lN u).toUInt64 >>> (((2 : Int32) * nI k).toInt64.toUInt64 &&& Int64.toUInt64 63)).toInt64).toInt32 &&& 3 = nI (dg u k) := by
  rw [two_nI, wb_shr hu (by omega), lN_i, nI_and3, p4]
  rfl
theorem ds_m {u : Nat} (hu : u < 2 ^ 64) {k : Nat} (hk : k < 32) : (((lN u) >>> (((2 : Int32) * nI k).toInt64 &&& 63)) &&& (3 : Int64)).toInt32 = nI (dg u k) := by
  rw [two_nI, wb_c (2 * k) (by omega)]
  have h1 : (lN u >>> lN (2 * k)) &&& (3 : Int64) = lN (dg u k) := by
    apply wb_inj
    rw [Int64.toBitVec_and, Int64.toBitVec_shiftRight, wb_tb (2 * k), wb_sm (2 * k) (by omega)]
    have h3 : (3 : Int64).toBitVec = 3#64 := rfl
    rw [h3, wb_tb, wb_tb, BitVec.sshiftRight'_ofNat_eq_sshiftRight, Nat.mod_eq_of_lt (by omega)]
    have h4 : (BitVec.ofNat 64 u).sshiftRight (2 * k) &&& 3#64 = (BitVec.ofNat 64 u >>> (2 * k)) &&& 3#64 := by
      apply BitVec.eq_of_getLsbD_eq
      intro i hi
      rw [BitVec.getLsbD_and, BitVec.getLsbD_and, BitVec.getLsbD_sshiftRight, BitVec.getLsbD_ushiftRight]
      by_cases h2 : i < 2
      · have e1 : decide (64 ≤ i) = false := decide_eq_false (by omega)
        rw [e1]
        have e2 : 2 * k + i < 64 := by omega
        simp [e2]
      · have e3 : (3#64).getLsbD i = false := by
          have : (3#64).getLsbD i = Nat.testBit 3 i := by
            rw [BitVec.getLsbD_ofNat]
            simp [hi]
          rw [this]
          exact Nat.testBit_lt_two_pow (Nat.lt_of_lt_of_le (by decide : 3 < 2 ^ 2) (Nat.pow_le_pow_right (by decide) (by omega)))
        rw [e3, Bool.and_false, Bool.and_false]
    rw [h4]
    apply BitVec.eq_of_toNat_eq
    rw [BitVec.toNat_and, BitVec.toNat_ushiftRight, BitVec.toNat_ofNat, BitVec.toNat_ofNat, BitVec.toNat_ofNat, Nat.mod_eq_of_lt hu, Nat.shiftRight_eq_div_pow, p4]
    have h5 : (3 % 2 ^ 64) = 2 ^ 2 - 1 := by decide
    rw [h5, Nat.and_two_pow_sub_one_eq_mod]
    unfold dg
    have := Nat.mod_lt (u / 4 ^ k) (by decide : 0 < 4)
    rw [Nat.mod_eq_of_lt (a := u / 4 ^ k % 4) (by omega)]
  rw [h1, lN_i]
/-- reading on until so many types are read -/
def sc (d : Nat → Nat) : Nat → Nat → Nat → Option Nat
  | 0, r, i => if r = 0 then some i else none
  | g + 1, r, i => if r = 0 then some i else if d i = 0 then none else sc d g (if d i = 3 then r + 1 else r - 1) (i + 1)
theorem sc_0 (d : Nat → Nat) (g i : Nat) : sc d g 0 i = some i := by
  cases g <;> rfl
theorem tyE_lt {d : Nat → Nat} : ∀ {f i e : Nat}, tyE d f i = some e → i < e := by
  intro f
  induction f with
  | zero => intro i e h; cases h
  | succ f ih =>
    intro i e h
    unfold tyE at h
    by_cases h0 : d i = 0
    · rw [if_pos h0] at h; cases h
    · rw [if_neg h0] at h
      by_cases h3 : d i = 3
      · rw [if_pos h3] at h
        cases hq : tyE d f (i + 1) with
        | none => rw [hq] at h; cases h
        | some q =>
          rw [hq] at h
          have := ih hq
          have := ih (show tyE d f q = some e from h)
          omega
      · rw [if_neg h3] at h
        have := Option.some.inj h
        omega
theorem tyE_cases {d : Nat → Nat} {f i e : Nat} (h : tyE d f i = some e) : ∃ f', f = f' + 1 ∧ d i ≠ 0 ∧ ((d i ≠ 3 ∧ e = i + 1) ∨ (d i = 3 ∧ ∃ q, tyE d f' (i + 1) = some q ∧ tyE d f' q = some e)) := by
  cases f with
  | zero => cases h
  | succ f =>
    unfold tyE at h
    by_cases h0 : d i = 0
    · rw [if_pos h0] at h; cases h
    · rw [if_neg h0] at h
      refine ⟨f, rfl, h0, ?_⟩
      by_cases h3 : d i = 3
      · rw [if_pos h3] at h
        cases hq : tyE d f (i + 1) with
        | none => rw [hq] at h; cases h
        | some q => rw [hq] at h; exact Or.inr ⟨h3, q, rfl, h⟩
      · rw [if_neg h3] at h
        exact Or.inl ⟨h3, (Option.some.inj h).symm⟩
theorem tyE_leaf {d : Nat → Nat} {f i : Nat} (h0 : d i ≠ 0) (h3 : d i ≠ 3) : tyE d (f + 1) i = some (i + 1) := by
  unfold tyE
  rw [if_neg h0, if_neg h3]
theorem tyE_from {d : Nat → Nat} {f i q e : Nat} (h3 : d i = 3) (h1 : tyE d f (i + 1) = some q) (h2 : tyE d f q = some e) : tyE d (f + 1) i = some e := by
  unfold tyE
  rw [if_neg (by omega), if_pos h3, h1]
  exact h2
theorem tyE_mono {d : Nat → Nat} : ∀ {f i e : Nat}, tyE d f i = some e → ∀ {g : Nat}, f ≤ g → tyE d g i = some e := by
  intro f
  induction f with
  | zero => intro i e h; cases h
  | succ f ih =>
    intro i e h g hg
    obtain ⟨g', rfl⟩ : ∃ g', g = g' + 1 := ⟨g - 1, by omega⟩
    obtain ⟨f', hf, h0, c⟩ := tyE_cases h
    obtain rfl : f' = f := by omega
    rcases c with ⟨h3, rfl⟩ | ⟨h3, q, h1, h2⟩
    · exact tyE_leaf h0 h3
    · exact tyE_from h3 (ih h1 (by omega)) (ih h2 (by omega))
theorem tyE_fuel {d : Nat → Nat} : ∀ {f i e : Nat}, tyE d f i = some e → tyE d (e - i) i = some e := by
  intro f
  induction f with
  | zero => intro i e h; cases h
  | succ f ih =>
    intro i e h
    obtain ⟨f', hf, h0, c⟩ := tyE_cases h
    obtain rfl : f' = f := by omega
    rcases c with ⟨h3, rfl⟩ | ⟨h3, q, h1, h2⟩
    · have e1 : i + 1 - i = 0 + 1 := by omega
      rw [e1]
      exact tyE_leaf h0 h3
    · have l1 := tyE_lt h1
      have l2 := tyE_lt h2
      have e1 : e - i = (e - i - 1) + 1 := by omega
      rw [e1]
      exact tyE_from h3 (tyE_mono (ih h1) (by omega)) (tyE_mono (ih h2) (by omega))
theorem tyE_fun {d : Nat → Nat} {f g i e e' : Nat} (h : tyE d f i = some e) (h' : tyE d g i = some e') : e = e' := by
  rcases Nat.le_total f g with q | q
  · exact Option.some.inj ((tyE_mono h q).symm.trans h')
  · exact Option.some.inj (h.symm.trans (tyE_mono h' q))
theorem sc_of {d : Nat → Nat} : ∀ {f i e1 : Nat}, tyE d f i = some e1 → ∀ {g r e : Nat}, e1 ≤ i + g → sc d (g - (e1 - i)) r e1 = some e → sc d g (r + 1) i = some e := by
  intro f
  induction f with
  | zero => intro i e1 h; cases h
  | succ f ih =>
    intro i e1 h g r e hg hs
    obtain ⟨f', hf, h0, c⟩ := tyE_cases h
    obtain rfl : f' = f := by omega
    have l0 := tyE_lt h
    obtain ⟨g', rfl⟩ : ∃ g', g = g' + 1 := ⟨g - 1, by omega⟩
    unfold sc
    rw [if_neg (by omega), if_neg h0]
    rcases c with ⟨h3, rfl⟩ | ⟨h3, q, h1, h2⟩
    · rw [if_neg h3]
      have e2 : g' + 1 - (i + 1 - i) = g' := by omega
      rw [e2] at hs
      rw [Nat.add_sub_cancel]
      exact hs
    · have l1 := tyE_lt h1
      have l2 := tyE_lt h2
      rw [if_pos h3]
      refine ih h1 (by omega) (ih h2 (by omega) ?_)
      have e2 : g' - (q - (i + 1)) - (e1 - q) = g' + 1 - (e1 - i) := by omega
      rw [e2]
      exact hs
theorem of_sc {d : Nat → Nat} : ∀ (g r i e : Nat), sc d g (r + 1) i = some e → ∃ e1, tyE d (e1 - i) i = some e1 ∧ e1 ≤ i + g ∧ sc d (g - (e1 - i)) r e1 = some e := by
  intro g
  induction g using Nat.strongRecOn with
  | ind g ih =>
    intro r i e h
    cases g with
    | zero => unfold sc at h; rw [if_neg (by omega)] at h; cases h
    | succ g =>
      unfold sc at h
      rw [if_neg (by omega)] at h
      by_cases h0 : d i = 0
      · rw [if_pos h0] at h; cases h
      · rw [if_neg h0] at h
        by_cases h3 : d i = 3
        · rw [if_pos h3] at h
          obtain ⟨q, a1, a2, a3⟩ := ih g (by omega) (r + 1) (i + 1) e h
          have l1 := tyE_lt a1
          obtain ⟨e1, b1, b2, b3⟩ := ih (g - (q - (i + 1))) (by omega) r q e a3
          have l2 := tyE_lt b1
          refine ⟨e1, ?_, by omega, ?_⟩
          · have e2 : e1 - i = (e1 - i - 1) + 1 := by omega
            rw [e2]
            exact tyE_from h3 (tyE_mono a1 (by omega)) (tyE_mono b1 (by omega))
          · have e2 : g - (q - (i + 1)) - (e1 - q) = g + 1 - (e1 - i) := by omega
            rw [e2] at b3
            exact b3
        · rw [if_neg h3, Nat.add_sub_cancel] at h
          refine ⟨i + 1, ?_, by omega, ?_⟩
          · have e2 : i + 1 - i = 0 + 1 := by omega
            rw [e2]
            exact tyE_leaf h0 h3
          · have e2 : g + 1 - (i + 1 - i) = g := by omega
            rw [e2]
            exact h
theorem sc_le {d : Nat → Nat} : ∀ (g r i e : Nat), sc d g r i = some e → i ≤ e ∧ e ≤ i + g := by
  intro g
  induction g with
  | zero =>
    intro r i e h
    unfold sc at h
    by_cases hr : r = 0
    · rw [if_pos hr] at h; have := Option.some.inj h; omega
    · rw [if_neg hr] at h; cases h
  | succ g ih =>
    intro r i e h
    unfold sc at h
    by_cases hr : r = 0
    · rw [if_pos hr] at h; have := Option.some.inj h; omega
    · rw [if_neg hr] at h
      by_cases h0 : d i = 0
      · rw [if_pos h0] at h; cases h
      · rw [if_neg h0] at h
        have := ih _ _ _ h
        omega
