/-! values as the class packs them -/
def cont (v : Vl) : Int32 := if v.1 = 1 then nI v.2.2 * 40 + v.2.1 else v.2.1
def pkV (v : Vl) : Int64 := ((cont v).toInt64 <<< ((2 : Int32).toInt64 &&& 63)) ||| (nI v.1).toInt64
theorem sar_bv (x : Int64) {k : Nat} (hk : k < 64) : (x >>> ((nI k).toInt64 &&& 63)).toBitVec = x.toBitVec.sshiftRight k := by
  rw [wb_c k hk, Int64.toBitVec_shiftRight, wb_tb, wb_sm k hk, BitVec.sshiftRight_eq', BitVec.toNat_ofNat, Nat.mod_eq_of_lt (by omega)]
theorem nI_64 {s : Nat} (hs : s < 4) : (nI s).toInt64.toBitVec = BitVec.ofNat 64 s := by
  rcases (by omega : s = 0 ∨ s = 1 ∨ s = 2 ∨ s = 3) with q | q | q | q <;> (rw [q]; decide)
theorem tb4 {s i : Nat} (hs : s < 4) (hi : 2 ≤ i) : s.testBit i = false := Nat.testBit_lt_two_pow (Nat.lt_of_lt_of_le hs (Nat.pow_le_pow_right (n := 2) (by decide) hi))
theorem bits_v (c : Int32) {s : Nat} (hs : s < 4) (i : Nat) (hi : i < 64) : ((c.toInt64 <<< ((2 : Int32).toInt64 &&& 63)) ||| (nI s).toInt64).toBitVec.getLsbD i = if i < 2 then s.testBit i else (c.toBitVec.signExtend 64).getLsbD (i - 2) := by
  rw [Int64.toBitVec_or, show (2 : Int32) = nI 2 from rfl, sh_bv _ (by decide), nI_64 hs, BitVec.getLsbD_or, BitVec.getLsbD_shiftLeft, BitVec.getLsbD_ofNat, Int32.toBitVec_toInt64]
  by_cases z : i < 2
  · rw [if_pos z]
    simp [z, hi]
  · rw [if_neg z, tb4 hs (by omega)]
    simp [z, hi]
theorem con_v (c : Int32) {s : Nat} (hs : s < 4) : (((c.toInt64 <<< ((2 : Int32).toInt64 &&& 63)) ||| (nI s).toInt64) >>> ((2 : Int32).toInt64 &&& 63)).toInt32 = c := by
  apply Int32.toBitVec_inj.mp
  rw [Int64.toBitVec_toInt32]
  obtain ⟨x, hx⟩ : ∃ x, x = (c.toInt64 <<< ((2 : Int32).toInt64 &&& 63)) ||| (nI s).toInt64 := ⟨_, rfl⟩
  have hb := fun i hi => bits_v c hs i hi
  rw [← hx] at hb ⊢
  rw [show (2 : Int32) = nI 2 from rfl, sar_bv _ (by decide)]
  apply BitVec.eq_of_getLsbD_eq
  intro i hi
  have h64 : i < 64 := by omega
  rw [BitVec.getLsbD_signExtend, if_pos h64, BitVec.getLsbD_sshiftRight]
  have : ¬ (64 ≤ i) := by omega
  have h2 : 2 + i < 64 := by omega
  simp only [hi, this, h2, decide_true, decide_false, Bool.not_false, Bool.true_and, if_true]
  rw [hb (2 + i) (by omega), if_neg (by omega), show 2 + i - 2 = i by omega, BitVec.getLsbD_signExtend]
  have h3 : i < 64 := by omega
  simp [hi, h3]
theorem out_v (c : Int32) {s : Nat} (hs : s < 4) : ((c.toInt64 <<< ((2 : Int32).toInt64 &&& 63)) ||| (nI s).toInt64).toInt32 &&& 3 = nI s := by
  apply Int32.toBitVec_inj.mp
  have n3 : ∀ t, t < 4 → (nI t).toBitVec = BitVec.ofNat 32 t := fun t _ => rfl
  rw [Int32.toBitVec_and, Int64.toBitVec_toInt32, show (3 : Int32) = nI 3 from rfl, n3 3 (by decide), n3 s hs]
  apply BitVec.eq_of_getLsbD_eq
  intro i hi
  have h64 : i < 64 := by omega
  rw [BitVec.getLsbD_and, BitVec.getLsbD_signExtend, if_pos h64, BitVec.getLsbD_ofNat, BitVec.getLsbD_ofNat, bits_v c hs i (by omega)]
  by_cases z : i < 2
  · rw [if_pos z]
    have : Nat.testBit 3 i = true := by
      rcases (by omega : i = 0 ∨ i = 1) with q | q <;> (rw [q]; decide)
    simp [hi, this]
  · rw [tb4 (s := 3) (by decide) (by omega), tb4 hs (by omega)]
    simp
section PACK
variable {σ : Mem}
theorem pv_dark : f_Ma_value 2 0 σ = some (pkV (2, 0, 0), σ) := rfl
theorem pv_spent : f_Ma_value 3 0 σ = some (pkV (3, 0, 0), σ) := rfl
theorem pv_num (x : Int32) : f_Ma_value 0 x σ = some (pkV (0, x, 0), σ) := rfl
theorem pv_fun (x : Int32) (c : Nat) : f_Ma_value 1 (nI c * 40 + x) σ = some (pkV (1, x, c), σ) := rfl
theorem out_pk {v : Vl} (h : v.1 < 4) : f_Ma_outcome (pkV v) σ = some (nI v.1, σ) := by
  unfold f_Ma_outcome pkV
  rw [out_v _ h]
theorem con_pk {v : Vl} (h : v.1 < 4) : f_Ma_content (pkV v) σ = some (cont v, σ) := by
  unfold f_Ma_content pkV
  rw [con_v _ h]
end PACK
