/-! edits on both sides: number, name; sum, call; function, claim; remove; lift -/
theorem rr_to {n : Nat} {k f : Nat → Int32} {t : Nat → Int64} {K F K' F' : Nat → Int32} {T T' : Nat → Int64} (h : rr n k f t K F T) (hk : ∀ j, j < n → K' j = K j) (hf : ∀ j, j < n → usF (K j) → F' j = F j) (ht : ∀ j, j < n → usT (K j) → T' j = T j) : rr n k f t K' F' T' := fun j hj => by
  have e := hk j hj
  refine ⟨(h j hj).1.trans e.symm, fun u => ?_, fun u => ?_⟩
  · rw [e] at u
    exact ((h j hj).2.1 u).trans (hf j hj u).symm
  · rw [e] at u
    exact ((h j hj).2.2 u).trans (ht j hj u).symm
theorem begun_to {σ σ1 : Mem} {A : Pg} {n n' : Nat} {K F K' F' : Nat → Int32} {T T' : Nat → Int64} (h : begun σ σ1 A n K F T) (hn : n' = n) (hk : ∀ j, j < n → K' j = K j) (hf : ∀ j, j < n → usF (K j) → F' j = F j) (ht : ∀ j, j < n → usT (K j) → T' j = T j) : begun σ σ1 A n' K' F' T' := by
  subst hn
  exact ⟨h.1, h.2.1, h.2.2.1, h.2.2.2.1, h.2.2.2.2.1, rr_to h.2.2.2.2.2 hk hf ht⟩
def tk {α : Type} (x : Nat → α) (a b : Nat) : Nat → α := fun j => if j < a then x j else x (j + (b - a))
theorem begun_take {σ σ1 : Mem} {A : Pg} {n : Nat} {K F : Nat → Int32} {T : Nat → Int64} (h : begun σ σ1 A n K F T) (hA : A.1 ≤ 40) {a b : Nat} (hab : a ≤ b) (hb : b ≤ n) (hn : n ≤ 48) : ∃ σ2, f_Mo_takeOut (nI a) (nI b) σ1 = some ((), σ2) ∧ begun σ σ2 A (n - (b - a)) (tk K a b) (tk F a b) (tk T a b) := by
  obtain ⟨σ2, k', f', t', a1, a2, a3, a4, a5⟩ := s_Mo_takeOut (σ := σ1) ⟨rfl, rfl, rfl⟩ h.2.2.2.1 hab hb hn
  refine ⟨σ2, a1, begun_tr h hA a2 (by rw [a3, pk_us]) (fun q hq => by rw [a3, pk_un hq]) ?_⟩
  rw [a4.1, a4.2.1, a4.2.2]
  have hr := h.2.2.2.2.2
  intro j hj
  obtain ⟨x1, x2, x3⟩ := a5 j hj
  rw [x1, x2, x3]
  unfold tk
  by_cases q : j < a
  · rw [if_pos q, if_pos q, if_pos q, if_pos q, if_pos q, if_pos q]
    exact hr j (by omega)
  · rw [if_neg q, if_neg q, if_neg q, if_neg q, if_neg q, if_neg q]
    exact hr _ (by omega)
theorem okP_dp {n c : Nat} {K F : Nat → Int32} {T : Nat → Int64} (h : okP (n, c, K, F, T)) : ∀ j, j < n → dp K j < 12 := fun j hj => by
  have h0 : 0 < n := by omega
  have := dp_tm (okP_wf h) 12 0 n h0 h.1 (by decide) j (Nat.zero_le _) hj
  rw [dp_0] at this
  omega
theorem okP_of {n c : Nat} {K F : Nat → Int32} {T : Nat → Int64} (hw : wf K n) (hn : n ≤ 40) (hd : ∀ j, j < n → dp K j < 12) (hc : c < n) (hk : okK n K F T) : okP (n, c, K, F, T) := by
  refine ⟨?_, hn, hc, hk⟩
  have := tm_dp hw 12 0 (by omega) (fun j _ hj => by rw [wf_root hw] at hj; rw [dp_0]; have := hd j hj; omega)
  rw [wf_root hw] at this
  exact this
theorem upd_v {α : Type} {x : Nat → α} {u : (Nat → α) → Nat → α → Nat → α} (hu : ∀ g k w q, u g k w q = if q = k then w else g q) (a : Nat) (v : α) (j : Nat) : u x a v j = if j = a then v else x j := hu x a v j
theorem upd_i (x : Nat → Int32) (a : Nat) (v : Int32) (j : Nat) : upd x a v j = if j = a then v else x j := rfl
section FILL
variable {TY : TYt} {PC : PCt} {PM : PMt} {σ : Mem} {n c p kp pb ch : Nat} {K F : Nat → Int32} {T : Nat → Int64} {Hs Ps : Nat → Pg}
theorem s_Pr_isOnHole {i : Nat} (h : atC σ i (n, c, K, F, T)) (hn : n ≤ 40) (hc : c < n) : f_Pr_isOnHole i σ = some (if K c = 0 then 1 else 0, σ) := by
  unfold f_Pr_isOnHole f_Pr_isOnHole_J17
  have e : σ.1 (cP i) 5 = nI c := h.2.1
  have ek : σ.1 (cPk i) c = K c := (h.2.2 c hc).1
  rw [e, gd_t (inb_nI (by omega) (by decide)), nI_cl (by omega), ek]
  by_cases q : K c = 0
  · rw [if_pos q, if_pos q]; rfl
  · rw [if_neg q, if_neg q]; rfl
/-- the reference's fill -/
def m_fill (x y : Int32) (σ : Mem) : Option (Int32 × Mem) := bn (f_Mo_begin σ) fun (_ : Unit) (σ3 : Mem) => gd (inb (σ3.1 15 1) 48) (lt_ (sI σ3 16 (σ3.1 15 1).toNatClampNeg x) fun (σ5 : Mem) => gd (inb (σ5.1 15 1) 48) (lt_ (sI σ5 17 (σ5.1 15 1).toNatClampNeg y) fun (σ7 : Mem) => bn (f_Mo_done (σ7.1 15 1) σ7) fun (r10 : Int32) (σ9 : Mem) => gd (isB r10) (some (r10, σ9))))
theorem M_fill (h : MV σ (n, c, K, F, T) kp pb Hs Ps) (ho : oks (n, c, K, F, T) kp pb Hs Ps) (hkp : kp ≤ 16) {x : Int32} (y : Int32) (hxT : ¬ usT x) (hw : wf (upd K c x) n) (hd : ∀ j, j < n → dp (upd K c x) j < 12) : ∃ σ4, m_fill x y σ = some (1, σ4) ∧ fr mE σ σ4 ∧ MV σ4 (n, c, upd K c x, upd F c y, T) (min (kp + 1) 16) 0 (push kp Hs (n, c, K, F, T)) Ps ∧ σ4.1 15 12 = 0 ∧ σ4.1 15 16 = 0 ∧ ∀ q, q ≠ 0 → q ≠ 5 → q ≠ 6 → q ≠ 1 → q ≠ 12 → q ≠ 16 → σ4.1 15 q = σ.1 15 q := by
  have hn : n ≤ 40 := ho.1.2.1
  have hc : c < n := ho.1.2.2.1
  obtain ⟨σ3, a1, a2⟩ := s_Mo_begin h.1 hn
  have hcu : σ3.1 15 1 = nI c := (a2.2.2.2.2.1 1 (by decide)).trans h.1.2.1
  unfold m_fill
  simp only [lt_]
  rw [a1, bn_q, hcu, gd_t (inb_nI (by omega) (by decide)), nI_cl (by omega)]
  obtain ⟨σ5, e5⟩ : ∃ s, s = sI σ3 16 c x := ⟨_, rfl⟩
  rw [← e5]
  have h5 : σ5.1 15 = σ3.1 15 := by rw [e5, rI_ne (by decide)]
  rw [h5, hcu, gd_t (inb_nI (by omega) (by decide)), nI_cl (by omega)]
  obtain ⟨σ7, e7⟩ : ∃ s, s = sI σ5 17 c y := ⟨_, rfl⟩
  rw [← e7]
  have h7 : σ7.1 15 = σ3.1 15 := by rw [e7, rI_ne (by decide), h5]
  have hb : begun σ σ7 (n, c, K, F, T) n (upd K c x) (upd F c y) T := by
    refine begun_tr a2 hn (σ2 := σ7) ?_ (by rw [h7]; exact a2.2.2.2.1) (fun q _ => by rw [h7]) ?_
    · rw [e7, e5]
      exact fr_tr (fr_rI _ _ (Or.inr (Or.inl rfl))) (fr_rI _ _ (Or.inr (Or.inr (Or.inl rfl))))
    · have k1 : σ7.1 16 = upd (σ3.1 16) c x := by rw [e7, rI_ne (by decide), e5, rI_at]
      have k2 : σ7.1 17 = upd (σ3.1 17) c y := by rw [e7, rI_at, e5, rI_ne (by decide)]
      have k3 : σ7.2 18 = σ3.2 18 := by rw [e7, e5]; rfl
      rw [k1, k2, k3]
      intro j hj
      by_cases q : j = c
      · rw [q, pk_us, pk_us, pk_us, pk_us]
        exact ⟨rfl, fun _ => rfl, fun u => absurd u hxT⟩
      · rw [pk_un q, pk_un q, pk_un q, pk_un q]
        exact a2.2.2.2.2.2 j hj
  rw [h7, hcu]
  obtain ⟨σ4, b1, b2⟩ := MV_yes h ho hkp hb (to := c) hn hw hd
  exact ⟨σ4, by rw [b1, bn_q]; rfl, b2⟩
/-- fill on both sides -/
theorem IV_fill (h : IV TY PC PM σ (n, c, K, F, T) p kp pb ch Hs Ps) (hch : ch < 1000) {x : Int32} (y : Int32) (hx : ar x = 0) (hxT : ¬ usT x) (hxK : isK x) (hK : K c = 0) (h1 : x = 1 → (-999 : Int32) ≤ y ∧ y ≤ 999) (h2 : x = 2 ∨ x = 5 → ∃ m, m ≤ 9 ∧ y = nI m) {mop : Mem → Option (Int32 × Mem)} (hm : ∀ s, atM s (n, c, K, F, T) → mop s = m_fill x y s) : ∃ σ1 σ2, f_Be_fillHole x y σ = some (1, σ1) ∧ mop σ1 = some (1, σ2) ∧ Inv TY PC PM (ch + 1) σ2 := by
  have ho := h.1
  have hn : n ≤ 40 := ho.1.2.1
  have hc : c < n := ho.1.2.2.1
  have har : ∀ j, ar (upd K c x j) = ar (K j) := fun j => by
    by_cases q : j = c
    · rw [q, pk_us, hK, hx]; rfl
    · rw [pk_un q]
  have hw : wf (upd K c x) n := by
    show tm _ _ _ = _
    rw [tm_ar har]
    exact okP_wf ho.1
  have hd : ∀ j, j < n → dp (upd K c x) j < 12 := fun j hj => by
    rw [dp_ar har]
    exact okP_dp ho.1 j hj
  have hA' : okP (n, c, upd K c x, upd F c y, T) := by
    refine okP_of hw hn hd hc (fun j hj => ?_)
    by_cases q : j = c
    · rw [q, pk_us, pk_us]
      exact ⟨hxK, h1, h2, fun u => absurd u hxT⟩
    · rw [pk_un q, pk_un q]
      exact ho.1.2.2.2 j hj
  obtain ⟨σ1, σ2, σ4, a1, a2, a3, a4⟩ := IV_yes h hch hA' (op := fun i s => f_Pr_fill i x y s) (mop := mop) (fun σ1 q => E_fill q hn hc hK y hx hxT) (fun σ2 q => by rw [hm σ2 q.1]; exact M_fill q ho (by have := h.2.1.2.1; omega) y hxT hw hd)
  refine ⟨σ2, σ4, ?_, a3, _, _, _, _, _, _, _, Nat.le_refl _, a4⟩
  unfold f_Be_fillHole
  rw [IV_present h, bn_q, gd_t (IV_p h), s_Pr_isOnHole h.2.1.2.2.2.1 hn hc, bn_q, if_pos hK, if_neg (by decide), a1, bn_q, gd_t (decide_eq_true (Nat.mod_lt _ (by decide)))]
  rw [show f_Pr_fill ((p + 1) % 17) x y σ1 = some ((), σ2) from a2, bn_q]
theorem fill_no (h : IV TY PC PM σ (n, c, K, F, T) p kp pb ch Hs Ps) (hK : ¬ K c = 0) (x y : Int32) : f_Be_fillHole x y σ = some (0, σ) := by
  have ho := h.1
  have hn : n ≤ 40 := ho.1.2.1
  have hc : c < n := ho.1.2.2.1
  unfold f_Be_fillHole
  rw [IV_present h, bn_q, gd_t (IV_p h), s_Pr_isOnHole h.2.1.2.2.2.1 hn hc, bn_q, if_neg hK, if_pos rfl]
theorem atM_cu (h : atM σ (n, c, K, F, T)) (hc : c < n) : σ.1 15 1 = nI c ∧ σ.1 16 c = K c := ⟨h.2.1, (h.2.2 c hc).1⟩
end FILL
section OKS
variable {TY : TYt} {PC : PCt} {PM : PMt}
theorem Inv_up {k m : Nat} {σ : Mem} (h : Inv TY PC PM k σ) (hk : k ≤ m) : Inv TY PC PM m σ := by
  obtain ⟨A, p, kp, pb, ch, Hs, Ps, q, h⟩ := h
  exact ⟨A, p, kp, pb, ch, Hs, Ps, by omega, h⟩
theorem i32_nlt {a b : Int32} (h : ¬ a < b) : b ≤ a := by
  rw [Int32.lt_iff_toInt_lt] at h
  rw [Int32.le_iff_toInt_le]
  omega
theorem i32_nle {a b : Int32} (h : ¬ a ≤ b) : b < a := by
  rw [Int32.le_iff_toInt_le] at h
  rw [Int32.lt_iff_toInt_lt]
  omega
theorem mo_number {n c : Nat} {K F : Nat → Int32} {T : Nat → Int64} (x : Int32) (hn : n ≤ 40) (hc : c < n) {s : Mem} (h : atM s (n, c, K, F, T)) : f_Mo_number x s = if K c = 0 then (if x < -999 then some (0, s) else if x ≤ 999 then m_fill 1 x s else some (0, s)) else some (0, s) := by
  obtain ⟨u1, u2⟩ := atM_cu h hc
  unfold f_Mo_number f_Mo_number_J26
  rw [u1, gd_t (inb_nI (by omega) (by decide)), nI_cl (by omega), u2]
  rfl
theorem mo_name {n c : Nat} {K F : Nat → Int32} {T : Nat → Int64} (x : Int32) (hn : n ≤ 40) (hc : c < n) {s : Mem} (h : atM s (n, c, K, F, T)) : f_Mo_name x s = if K c = 0 then (if x < 0 then some (0, s) else if x ≤ 9 then m_fill 2 x s else some (0, s)) else some (0, s) := by
  obtain ⟨u1, u2⟩ := atM_cu h hc
  unfold f_Mo_name f_Mo_name_J22
  rw [u1, gd_t (inb_nI (by omega) (by decide)), nI_cl (by omega), u2]
  rfl
theorem ok_number {k : Nat} {σ : Mem} (hk : k < 900) (hI : Inv TY PC PM k σ) (x : Int32) : Ok TY PC PM (k + 1) σ (f_Be_number x) (f_Mo_number x) := by
  obtain ⟨⟨n, c, K, F, T⟩, p, kp, pb, ch, Hs, Ps, hk2, h⟩ := id hI
  have hn : n ≤ 40 := h.1.1.2.1
  have hc : c < n := h.1.1.2.2.1
  have mo := fun s (q : atM s (n, c, K, F, T)) => mo_number x hn hc q
  by_cases a : x < -999
  · refine Ok_same hI (r := 0) ?_ ?_
    · unfold f_Be_number f_Be_number_J14
      rw [if_pos a]
    · rw [mo σ h.2.2.1.1, if_pos a]
      split <;> rfl
  by_cases b : x ≤ 999
  · have bf : f_Be_number x σ = bn (f_Be_fillHole 1 x σ) fun (r3 : Int32) (σ2 : Mem) => gd (isB r3) (some (r3, σ2)) := by
      unfold f_Be_number
      rw [if_neg a, if_pos b]
    by_cases q : K c = 0
    · obtain ⟨σ1, σ2, e1, e2, e3⟩ := IV_fill h (by omega) x (show ar 1 = 0 from by decide) (show ¬ usT 1 from by unfold usT; decide) (Or.inr (Or.inl rfl)) q (fun _ => ⟨i32_nlt a, b⟩) (fun z => by rcases z with z | z <;> exact absurd z (by decide)) (mop := f_Mo_number x) (fun s w => by rw [mo s w, if_pos q, if_neg a, if_pos b])
      exact ⟨1, σ1, σ2, by rw [bf, e1, bn_q]; rfl, e2, Inv_up e3 (by omega)⟩
    · refine Ok_same hI (r := 0) ?_ ?_
      · rw [bf, fill_no h q, bn_q]; rfl
      · rw [mo σ h.2.2.1.1, if_neg q]
  · refine Ok_same hI (r := 0) ?_ ?_
    · unfold f_Be_number f_Be_number_J14
      rw [if_neg a, if_neg b]
    · rw [mo σ h.2.2.1.1, if_neg a, if_neg b]
      split <;> rfl
theorem nm_of {x : Int32} (h0 : ¬ x < 0) (h9 : x ≤ 9) : ∃ m, m ≤ 9 ∧ x = nI m := by
  rw [Int32.lt_iff_toInt_lt] at h0
  rw [Int32.le_iff_toInt_le] at h9
  have e9 : (9 : Int32).toInt = 9 := rfl
  have e0 : (0 : Int32).toInt = 0 := rfl
  rw [e9] at h9
  rw [e0] at h0
  refine ⟨x.toInt.toNat, by omega, Int32.toInt_inj.mp ?_⟩
  rw [nI_toInt (by omega)]
  omega
theorem s_isName (x : Int32) (σ : Mem) : f_Be_isName x σ = some (if x < 0 then 0 else if 9 < x then 0 else 1, σ) := by
  unfold f_Be_isName f_Be_isName_J14 f_Be_isName_J15
  by_cases a : x < 0
  · rw [if_pos a, if_pos a]; rfl
  · rw [if_neg a, if_neg a]
    by_cases b : 9 < x
    · rw [if_pos b, if_pos b]; rfl
    · rw [if_neg b, if_neg b]; rfl
theorem ok_name {k : Nat} {σ : Mem} (hk : k < 900) (hI : Inv TY PC PM k σ) (x : Int32) : Ok TY PC PM (k + 1) σ (f_Be_name x) (f_Mo_name x) := by
  obtain ⟨⟨n, c, K, F, T⟩, p, kp, pb, ch, Hs, Ps, hk2, h⟩ := id hI
  have hn : n ≤ 40 := h.1.1.2.1
  have hc : c < n := h.1.1.2.2.1
  have mo := fun s (q : atM s (n, c, K, F, T)) => mo_name x hn hc q
  by_cases a : x < 0
  · refine Ok_same hI (r := 0) ?_ ?_
    · unfold f_Be_name
      rw [s_isName, if_pos a, bn_q, if_pos rfl]
    · rw [mo σ h.2.2.1.1, if_pos a]
      split <;> rfl
  by_cases b : x ≤ 9
  · have b' : ¬ (9 : Int32) < x := fun z => by rw [Int32.lt_iff_toInt_lt] at z; rw [Int32.le_iff_toInt_le] at b; omega
    have bf : f_Be_name x σ = bn (f_Be_fillHole 2 x σ) fun (r3 : Int32) (σ2 : Mem) => gd (isB r3) (some (r3, σ2)) := by
      unfold f_Be_name
      rw [s_isName, if_neg a, if_neg b', bn_q, if_neg (by decide)]
    by_cases q : K c = 0
    · obtain ⟨σ1, σ2, e1, e2, e3⟩ := IV_fill h (by omega) x (show ar 2 = 0 from by decide) (show ¬ usT 2 from by unfold usT; decide) (Or.inr (Or.inr (Or.inl rfl))) q (fun z => absurd z (by decide)) (fun _ => nm_of a b) (mop := f_Mo_name x) (fun s w => by rw [mo s w, if_pos q, if_neg a, if_pos b])
      exact ⟨1, σ1, σ2, by rw [bf, e1, bn_q]; rfl, e2, Inv_up e3 (by omega)⟩
    · refine Ok_same hI (r := 0) ?_ ?_
      · rw [bf, fill_no h q, bn_q]; rfl
      · rw [mo σ h.2.2.1.1, if_neg q]
  · have b' := i32_nle b
    refine Ok_same hI (r := 0) ?_ ?_
    · unfold f_Be_name
      rw [s_isName, if_neg a, if_pos b', bn_q, if_pos rfl]
    · rw [mo σ h.2.2.1.1, if_neg a, if_neg b]
      split <;> rfl
end OKS
