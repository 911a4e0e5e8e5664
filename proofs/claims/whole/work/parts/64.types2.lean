/-! types: their parts, made of parts; both sides alike -/
def vN (x : Int64) : Nat := x.toBitVec.toNat
theorem vN_lt (x : Int64) : vN x < 2 ^ 64 := x.toBitVec.isLt
theorem vN_eq (x : Int64) : x = lN (vN x) := wb_inj (by rw [wb_tb]; unfold vN; simp)
theorem vN_lN {u : Nat} (h : u < 2 ^ 64) : vN (lN u) = u := wb_tn h
def tyV (u m : Nat) : Prop := tyE (dg u) m 0 = some m ∧ u < 4 ^ m ∧ m ≤ 27
theorem tyV_lt {u m : Nat} (h : tyV u m) : u < 2 ^ 54 := by
  have h1 : 4 ^ m ≤ 4 ^ 27 := Nat.pow_le_pow_right (by decide) h.2.2
  have h2 : (4 : Nat) ^ 27 = 2 ^ 54 := by decide
  have := h.2.1
  omega
theorem okT_V {u : Nat} (hu : u < 2 ^ 64) : okT (lN u) ↔ ∃ m, tyV u m := by
  rw [okT_iff hu]
  constructor
  · rintro ⟨m, h1, h2, h3⟩
    exact ⟨m, (sc_ty.mp h2).1, h3, h1⟩
  · rintro ⟨m, h1, h2, h3⟩
    exact ⟨m, h3, sc_ty.mpr ⟨h1, by omega⟩, h2⟩
theorem okT_x {x : Int64} (h : okT x) : ∃ m, tyV (vN x) m := by
  rw [vN_eq x] at h
  exact (okT_V (vN_lt x)).mp h
theorem okT_of {u m : Nat} (h : tyV u m) : okT (lN u) := (okT_V (by have := tyV_lt h; omega)).mpr ⟨m, h⟩
theorem tyV_fun {u m m' : Nat} (h : tyV u m) (h' : tyV u m') : m = m' := tyE_fun h.1 h'.1
def segN (u i e : Nat) : Nat := u / 4 ^ i % 4 ^ (e - i)
theorem dg_seg {u i e k : Nat} (h : k < e - i) : dg (segN u i e) k = dg u (i + k) := by
  unfold dg segN
  have e1 : 4 ^ (e - i) = 4 ^ k * 4 ^ (e - i - k) := by rw [← Nat.pow_add]; congr 1; omega
  have e2 : 4 ^ (e - i - k) = 4 * 4 ^ (e - i - k - 1) := by rw [← Nat.pow_succ']; congr 1; omega
  rw [e1, Nat.mod_mul_right_div_self, Nat.div_div_eq_div_mul, ← Nat.pow_add, e2, Nat.mod_mul_right_mod]
theorem tyE_move {d d' : Nat → Nat} : ∀ {f i e : Nat}, tyE d f i = some e → ∀ {i' : Nat}, (∀ x, i ≤ x → x < e → d' (i' + (x - i)) = d x) → tyE d' f i' = some (i' + (e - i)) := by
  intro f
  induction f with
  | zero => intro i e h; cases h
  | succ f ih =>
    intro i e h i' hd
    have hlt := tyE_lt h
    have h0 := hd i (Nat.le_refl _) hlt
    rw [Nat.sub_self, Nat.add_zero] at h0
    obtain ⟨f', hf, hn, hc⟩ := tyE_cases h
    obtain rfl : f = f' := by omega
    rcases hc with ⟨h3, rfl⟩ | ⟨h3, q, h1, h2⟩
    · rw [tyE_leaf (by rw [h0]; exact hn) (by rw [h0]; exact h3)]
      congr 1; omega
    · have l1 := tyE_lt h1
      have l2 := tyE_lt h2
      have a1 := ih h1 (i' := i' + 1) (fun x hx hx2 => by
        have := hd x (by omega) (by omega)
        rwa [show i' + 1 + (x - (i + 1)) = i' + (x - i) by omega])
      have a2 := ih h2 (i' := i' + 1 + (q - (i + 1))) (fun x hx hx2 => by
        have := hd x (by omega) (by omega)
        rwa [show i' + 1 + (q - (i + 1)) + (x - q) = i' + (x - i) by omega])
      rw [tyE_from (by rw [h0]; exact h3) a1 a2]
      congr 1; omega
theorem segN_lt (u i e : Nat) : segN u i e < 4 ^ (e - i) := Nat.mod_lt _ (Nat.pow_pos (by decide))
theorem seg_V {u f i e : Nat} (h : tyE (dg u) f i = some e) (he : e - i ≤ 27) : tyV (segN u i e) (e - i) := by
  have := tyE_move (d' := dg (segN u i e)) (tyE_fuel h) (i' := 0) (fun x hx hx2 => by
    rw [Nat.zero_add, dg_seg (by omega)]
    congr 1; omega)
  rw [Nat.zero_add] at this
  exact ⟨this, segN_lt u i e, he⟩
/-- where the type at a place ends -/
def nx (u i : Nat) : Nat := (sc (dg u) (28 - i) 1 i).getD 0
theorem nx_of {u f i e : Nat} (h : tyE (dg u) f i = some e) (he : e ≤ 28) : sc (dg u) (28 - i) 1 i = some e ∧ nx u i = e := by
  have l := tyE_lt h
  have : sc (dg u) (28 - i) 1 i = some e := sc_ty.mpr ⟨tyE_fuel h, by omega⟩
  exact ⟨this, by unfold nx; rw [this]; rfl⟩
theorem V_from {u m : Nat} (h : tyV u m) (h3 : dg u 0 = 3) : 1 < nx u 1 ∧ nx u 1 < m ∧ tyE (dg u) (nx u 1 - 1) 1 = some (nx u 1) ∧ tyE (dg u) (m - nx u 1) (nx u 1) = some m := by
  obtain ⟨f', hf, hn, hc⟩ := tyE_cases h.1
  rcases hc with ⟨z, _⟩ | ⟨_, q, h1, h2⟩
  · exact absurd h3 z
  · have l1 := tyE_lt h1
    have l2 := tyE_lt h2
    have hq := (nx_of h1 (by have := h.2.2; omega)).2
    rw [hq]
    exact ⟨by omega, by omega, tyE_fuel h1, tyE_fuel h2⟩
theorem wb_sar {n k : Nat} (hn : n < 2 ^ 63) (hk : k < 64) : lN n >>> ((nI k).toInt64 &&& 63) = lN (n / 2 ^ k) := by
  rw [wb_c k hk]
  apply Int64.toInt_inj.mp
  have e1 : (lN n >>> lN k).toInt = (lN n).toInt >>> k := by
    show (lN n >>> lN k).toBitVec.toInt = _
    rw [Int64.toBitVec_shiftRight, wb_tb k, wb_sm k hk, BitVec.sshiftRight'_ofNat_eq_sshiftRight, Nat.mod_eq_of_lt (by omega), BitVec.toInt_sshiftRight]
    rfl
  have e2 : ∀ {m : Nat}, m < 2 ^ 63 → (lN m).toInt = (m : Int) := fun {m} hm => by
    show (BitVec.ofNat 64 m).toInt = _
    rw [BitVec.toInt_eq_toNat_cond, BitVec.toNat_ofNat, Nat.mod_eq_of_lt (by omega), if_pos (by omega)]
  rw [e1, e2 hn, e2 (Nat.lt_of_le_of_lt (Nat.div_le_self _ _) hn), Int.shiftRight_eq_div_pow]
  rfl
theorem lN_m1 {a : Nat} (h : 0 < a) : lN a - 1 = lN (a - 1) := by
  obtain ⟨b, rfl⟩ : ∃ b, a = b + 1 := ⟨a - 1, by omega⟩
  apply wb_inj
  rw [Int64.toBitVec_sub, wb_tb, wb_tb]
  show BitVec.ofNat 64 (b + 1) - 1#64 = BitVec.ofNat 64 (b + 1 - 1)
  rw [Nat.add_sub_cancel]
  apply BitVec.eq_of_toNat_eq
  rw [BitVec.toNat_sub, BitVec.toNat_ofNat, BitVec.toNat_ofNat, BitVec.toNat_ofNat]
  omega
theorem mk_4 {k : Nat} (hk : k < 32) : ((1 : Int64) <<< (((2 : Int32) * nI k).toInt64 &&& 63)) - 1 = lN (2 ^ (2 * k) - 1) := by
  rw [two_nI]
  have : (1 : Int64) <<< ((nI (2 * k)).toInt64 &&& 63) = lN (1 * 2 ^ (2 * k)) := wb_shl 1 (by omega)
  rw [this, Nat.one_mul, lN_m1 (Nat.pow_pos (by decide))]
abbrev isF (x : Int64) : Prop := x &&& 3 = 3
theorem isF_dg {u : Nat} (hu : u < 2 ^ 64) : isF (lN u) ↔ dg u 0 = 3 := by
  show lN u &&& 3 = 3 ↔ _
  have e1 : lN u &&& 3 = lN (u % 2 ^ 2) := wb_mask (k := 2) hu (by decide)
  have e2 : (3 : Int64) = lN 3 := rfl
  rw [e1, e2]
  have e3 : dg u 0 = u % 4 := by unfold dg; rw [Nat.pow_zero, Nat.div_one]
  rw [e3]
  constructor
  · intro h
    have := congrArg vN h
    rw [vN_lN (by omega), vN_lN (by decide)] at this
    exact this
  · intro h
    show lN (u % 4) = lN 3
    rw [h]
