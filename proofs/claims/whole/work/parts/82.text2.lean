/-! text, hole, click -/
section TEXTS
variable {TY : TYt} {σ : Mem} {n c p kp pb ch : Nat} {K F : Nat → Int32} {T : Nat → Int64} {Hs Ps : Nat → Pg}
theorem text_loop {L : Tp} (hT : TM σ L) (hL : L.length ≤ 1760) {k : Nat} (hk : k < 300) : ∀ (m : Nat) (v : Int64), m ≤ 8 → ∃ r : Int64, loopF (fun (q : (Int64 × Int32 × Mem)) => f_Mo_text_L10 (nI k) q.1 q.2.1 q.2.2) (m + 1) (v, nI m + (-1), σ) = some (r, σ) ∧ r.toBitVec = (v.toBitVec <<< (8 * m)) ||| wo L k m := by
  intro m
  induction m with
  | zero =>
    intro v _
    refine ⟨v, lp_exit ?_, ?_⟩
    · show f_Mo_text_L10 (nI k) v (nI 0 + (-1)) σ = _
      unfold f_Mo_text_L10 f_Mo_text_J69
      rw [if_pos (by decide)]
      rfl
    · show _ = v.toBitVec <<< 0 ||| 0#64
      rw [BitVec.shiftLeft_zero, BitVec.or_zero]
  | succ m ih =>
    intro v hm
    rw [pk_m1]
    have ad : (8 : Int32) * nI k + nI m = nI (8 * k + m) := by
      rw [show (8 : Int32) * nI k = nI (8 * k) from pk_mul 8 k, nI_add]
    obtain ⟨u, hu, hb⟩ : ∃ u : Int32, f_Mo_text_L10 (nI k) v (nI m) σ = some (.inl ((v <<< ((8 : Int32).toInt64 &&& 63)) ||| u.toInt64, nI m + (-1), σ)) ∧ u.toInt64.toBitVec <<< (8 * m) = chB L (8 * k + m) m := by
      unfold f_Mo_text_L10 f_Mo_text_J60
      rw [if_neg (nI_pos (by omega)), if_neg (nI_pos (by omega)), if_neg (fun z => by have := (nIle (a := 300) (by decide) (by omega)).mp z; omega), ad, hT.1]
      by_cases z : L.length ≤ 8 * k + m
      · refine ⟨0, ?_, ?_⟩
        · rw [if_pos ((nIle (by omega) (by omega)).mpr z), lt_q, lt_q]
        · rw [chB_no m z]
          show 0#64 <<< (8 * m) = 0#64
          rw [BitVec.zero_shiftLeft]
      · have hx : L[8 * k + m]? = some (L[8 * k + m]'(by omega)) := List.getElem?_eq_getElem (by omega)
        refine ⟨(L[8 * k + m]'(by omega)).1, ?_, ?_⟩
        · rw [if_neg (fun y => z ((nIle (by omega) (by omega)).mp y)), gd_t (inb_nI (by omega) (by decide)), nI_cl (by omega), (hT.2 _ _ hx).1, lt_q, lt_q]
        · unfold chB
          rw [hx]
    obtain ⟨r, a1, a2⟩ := ih ((v <<< ((8 : Int32).toInt64 &&& 63)) ||| u.toInt64) (by omega)
    refine ⟨r, lp_step (b := (_, _, _)) hu a1, ?_⟩
    rw [a2, Int64.toBitVec_or, show (8 : Int32) = nI 8 from rfl, sh_bv v (by decide), BitVec.shiftLeft_or_distrib, hb, ← BitVec.shiftLeft_add]
    show _ = _ ||| (wo L k m ||| chB L (8 * k + m) m)
    rw [BitVec.or_assoc, BitVec.or_comm (chB L (8 * k + m) m), show 8 + 8 * m = 8 * (m + 1) by omega]
theorem wo_out {L : Tp} {k : Nat} (h : L.length ≤ 8 * k) : ∀ j, wo L k j = 0#64
  | 0 => rfl
  | j + 1 => by
    show wo L k j ||| chB L (8 * k + j) j = _
    rw [wo_out h j, chB_no j (by omega)]
    decide
theorem ok_text {k : Nat} (hk : k < 900) (hI : Inv TY PCp PMp k σ) (v : Int32) : Ok TY PCp PMp (k + 1) σ (f_Be_text v) (f_Mo_text v) := by
  obtain ⟨⟨n, c, K, F, T⟩, p, kp, pb, ch, Hs, Ps, hk2, h⟩ := id hI
  obtain ⟨σ1, a1, a2, a3, a4⟩ := IV_written h (by omega)
  obtain ⟨σ2, b1, b2, b3, b4, b5, b6⟩ := IV_spell a2 (by omega) a3
  have hn : n ≤ 40 := h.1.1.2.1
  have hok : okK n K F T := h.1.1.2.2.2
  have ln : (tx K F T 12 0).length ≤ 44 * (n - 0) := tx_len hok 12 h.1.1.1 (by decide) (Nat.le_refl _)
  have hT : TM σ2 (tx K F T 12 0) := ⟨b3.1, b3.2.1⟩
  have out : (v < 0 ∨ 300 ≤ v) → f_Mo_text v σ1 = some (0, σ2) := fun q => by
    unfold f_Mo_text
    rw [b1, bn_q, lt_q, lt_q]
    refine lp_FU (n := 1) (lp_exit ?_) (by decide)
    show f_Mo_text_L10 v 0 7 σ2 = _
    unfold f_Mo_text_L10 f_Mo_text_J69
    rw [if_neg (by decide)]
    rcases q with q | q
    · rw [if_pos q]; rfl
    · by_cases z : v < 0
      · rw [if_pos z]; rfl
      · rw [if_neg z, if_pos q]; rfl
  have ins : ∀ k, v = nI k → k < 300 → ∃ r, f_Mo_text v σ1 = some (r, σ2) ∧ r.toBitVec = wo (tx K F T 12 0) k 8 := fun k q hk => by
    obtain ⟨r, c1, c2⟩ := text_loop hT (by omega) hk 8 0 (by decide)
    refine ⟨r, ?_, ?_⟩
    · unfold f_Mo_text
      rw [b1, bn_q, lt_q, lt_q, q]
      exact lp_FU c1 (by decide)
    · rw [c2]
      show 0#64 <<< (8 * 8) ||| _ = _
      rw [BitVec.zero_shiftLeft, BitVec.zero_or]
  have fin : ∀ r, f_Pa_eightOf v σ1 = some (r, σ1) → f_Mo_text v σ1 = some (r, σ2) → Ok TY PCp PMp (k + 1) σ (f_Be_text v) (f_Mo_text v) := fun r c1 c2 => by
    refine ⟨r, σ1, σ2, ?_, c2, _, _, _, _, _, _, _, (by omega : ch ≤ k + 1), b2⟩
    unfold f_Be_text
    rw [a1, bn_q, c1, bn_q]
  by_cases q : v < 0
  · refine fin 0 ?_ (out (Or.inl q))
    unfold f_Pa_eightOf f_Pa_eightOf_J22 f_Pa_eightOf_J23
    rw [if_pos q]
  · obtain ⟨m, hm, rfl⟩ := nI_of q
    by_cases q2 : m < 220
    · obtain ⟨r, c1, c2⟩ := ins m rfl (by omega)
      have : r = σ1.2 8 m := Int64.toBitVec_inj.mp (by rw [c2, a4.1 m q2])
      refine fin r ?_ c1
      unfold f_Pa_eightOf f_Pa_eightOf_J22 f_Pa_eightOf_J23
      rw [if_neg q, if_neg (fun z => by have := (nIle (a := 220) (by decide) hm).mp z; omega), gd_t (inb_nI q2 (by decide)), nI_cl hm, this]
    · have e0 : f_Pa_eightOf (nI m) σ1 = some (0, σ1) := by
        unfold f_Pa_eightOf f_Pa_eightOf_J22 f_Pa_eightOf_J23
        rw [if_neg q, if_pos (show (220 : Int32) ≤ nI m from (nIle (a := 220) (by decide) hm).mpr (by omega))]
      by_cases q3 : m < 300
      · obtain ⟨r, c1, c2⟩ := ins m rfl q3
        have : r = 0 := Int64.toBitVec_inj.mp (by rw [c2, wo_out (by omega)]; rfl)
        rw [this] at c1
        exact fin 0 e0 c1
      · exact fin 0 e0 (out (Or.inr ((nIle (a := 300) (by decide) hm).mpr (by omega))))
end TEXTS
