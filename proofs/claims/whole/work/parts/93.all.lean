/-! THE PURE LAW: every call answers alike on both sides, however the script goes on -/
theorem Ok_law {TY : TYt} {PC : PCt} {PM : PMt} {α : Type} [DecidableEq α] {k : Nat} {σ : Mem} {f g : Mem → Option (α × Mem)} (h : Ok TY PC PM k σ f g) : ∃ σ', (bn (f σ) fun (r1 : α) (σ1 : Mem) => bn (g σ1) fun (r2 : α) (σ2 : Mem) => if r1 = r2 then some σ2 else none) = some σ' ∧ Inv TY PC PM k σ' := by
  obtain ⟨r, σ1, σ2, a1, a2, a3⟩ := h
  refine ⟨σ2, ?_, a3⟩
  rw [a1, bn_q, a2, bn_q, if_pos rfl]
theorem law_step {k : Nat} {σ : Mem} (hk : k < 900) (hI : Inv TYp PCp PMp k σ) (xs : Nat → Int32) (n : Nat) : ∃ σ', lawStep xs n σ = some σ' ∧ Inv TYp PCp PMp (k + 1) σ' := by
  unfold lawStep
  by_cases c0 : xs n &&& 31 = (0 : Int32)
  · rw [if_pos c0]
    exact Ok_law (ok_number hk hI _)
  rw [if_neg c0]
  by_cases c1 : xs n &&& 31 = (1 : Int32)
  · rw [if_pos c1]
    exact Ok_law (ok_name hk hI _)
  rw [if_neg c1]
  by_cases c2 : xs n &&& 31 = (2 : Int32)
  · rw [if_pos c2]
    exact Ok_law (ok_sum hk hI _)
  rw [if_neg c2]
  by_cases c3 : xs n &&& 31 = (3 : Int32)
  · rw [if_pos c3]
    exact Ok_law (ok_call hk hI _)
  rw [if_neg c3]
  by_cases c4 : xs n &&& 31 = (4 : Int32)
  · rw [if_pos c4]
    exact Ok_law (ok_function hk hI _ _)
  rw [if_neg c4]
  by_cases c5 : xs n &&& 31 = (5 : Int32)
  · rw [if_pos c5]
    exact Ok_law (ok_claim hk hI _)
  rw [if_neg c5]
  by_cases c6 : xs n &&& 31 = (6 : Int32)
  · rw [if_pos c6]
    exact Ok_law (ok_remove hk hI)
  rw [if_neg c6]
  by_cases c7 : xs n &&& 31 = (7 : Int32)
  · rw [if_pos c7]
    exact Ok_law (ok_lift hk hI)
  rw [if_neg c7]
  by_cases c8 : xs n &&& 31 = (8 : Int32)
  · rw [if_pos c8]
    exact Ok_law (ok_undo hk hI)
  rw [if_neg c8]
  by_cases c9 : xs n &&& 31 = (9 : Int32)
  · rw [if_pos c9]
    exact Ok_law (ok_redo hk hI)
  rw [if_neg c9]
  by_cases c10 : xs n &&& 31 = (10 : Int32)
  · rw [if_pos c10]
    exact Ok_law (ok_up hI)
  rw [if_neg c10]
  by_cases c11 : xs n &&& 31 = (11 : Int32)
  · rw [if_pos c11]
    exact Ok_law (ok_down hI _)
  rw [if_neg c11]
  by_cases c12 : xs n &&& 31 = (12 : Int32)
  · rw [if_pos c12]
    exact Ok_law (ok_hole hk hI)
  rw [if_neg c12]
  by_cases c13 : xs n &&& 31 = (13 : Int32)
  · rw [if_pos c13]
    exact Ok_law (ok_click hk hI _)
  rw [if_neg c13]
  by_cases c14 : xs n &&& 31 = (14 : Int32)
  · rw [if_pos c14]
    exact Ok_law (ok_column hk hI)
  rw [if_neg c14]
  by_cases c15 : xs n &&& 31 = (15 : Int32)
  · rw [if_pos c15]
    exact Ok_law (ok_kind hI)
  rw [if_neg c15]
  by_cases c16 : xs n &&& 31 = (16 : Int32)
  · rw [if_pos c16]
    exact Ok_law (ok_mark hk hI)
  rw [if_neg c16]
  by_cases c17 : xs n &&& 31 = (17 : Int32)
  · rw [if_pos c17]
    exact Ok_law (ok_got hk hI)
  rw [if_neg c17]
  by_cases c18 : xs n &&& 31 = (18 : Int32)
  · rw [if_pos c18]
    exact Ok_law (ok_expected hk hI)
  rw [if_neg c18]
  by_cases c19 : xs n &&& 31 = (19 : Int32)
  · rw [if_pos c19]
    exact Ok_law (ok_marks hk hI)
  rw [if_neg c19]
  by_cases c20 : xs n &&& 31 = (20 : Int32)
  · rw [if_pos c20]
    exact Ok_law (ok_terms hI)
  rw [if_neg c20]
  by_cases c21 : xs n &&& 31 = (21 : Int32)
  · rw [if_pos c21]
    exact Ok_law (ok_text hk hI _)
  rw [if_neg c21]
  by_cases c22 : xs n &&& 31 = (22 : Int32)
  · rw [if_pos c22]
    exact Ok_law (ok_run hk hI)
  rw [if_neg c22]
  by_cases c23 : xs n &&& 31 = (23 : Int32)
  · rw [if_pos c23]
    exact Ok_law (ok_result hI)
  rw [if_neg c23]
  by_cases c24 : xs n &&& 31 = (24 : Int32)
  · rw [if_pos c24]
    exact Ok_law (ok_units hI)
  rw [if_neg c24]
  exact ⟨σ, rfl, Inv_up hI (by omega)⟩
theorem m0_1 (q : Nat) : mem0.1 1 q = 0 := rfl
theorem stale_m1 : stale (-1) 0 := fun m _ h z => by
  have a := nI_toInt (n := m) (by omega)
  rw [← z] at a
  have b : (-1 : Int32).toInt = -1 := by decide
  rw [b] at a
  omega
def A0 : Pg := (1, 0, (fun _ => 0), (fun _ => 0), fun _ => 0)
theorem A0_ok : okP A0 := ⟨rfl, by decide, by decide, fun j _ => ⟨Or.inl rfl, fun z => absurd z (show ¬ (0 : Int32) = 1 by decide), fun z => by
  rcases z with z | z
  · exact absurd z (show ¬ (0 : Int32) = 2 by decide)
  · exact absurd z (show ¬ (0 : Int32) = 5 by decide), fun z => by
  rcases z with z | z
  · exact absurd z (show ¬ (0 : Int32) = 5 by decide)
  · exact absurd z (show ¬ (0 : Int32) = 6 by decide)⟩⟩
theorem inv_0 : Inv TYp PCp PMp 0 mem0 := by
  refine ⟨A0, 0, 0, 0, 0, (fun _ => A0), (fun _ => A0), Nat.le_refl _, ⟨A0_ok, fun j hj => by omega, fun j hj => by omega⟩, ⟨by decide, by decide, ⟨rfl, rfl, rfl, rfl⟩, ⟨rfl, rfl, fun j hj => ?_⟩, fun j hj => by omega, fun j hj => by omega⟩, ⟨⟨rfl, rfl, fun j hj => ?_⟩, rfl, rfl, fun j hj => by omega, fun j hj => by omega⟩, Or.inl ⟨stale_m1, rfl⟩, Or.inl ⟨stale_m1, rfl⟩, ⟨rfl, rfl⟩⟩
  · have : j = 0 := by
      have : j < 1 := hj
      omega
    rw [this]
    exact ⟨rfl, rfl, fun _ => rfl, fun _ => rfl⟩
  · have : j = 0 := by
      have : j < 1 := hj
      omega
    rw [this]
    exact ⟨rfl, fun _ => rfl, fun _ => rfl⟩
theorem pure_all : ∃ Inv : Nat → Mem → Prop, ∀ xs : Nat → Int32, PureOK xs Inv := ⟨Inv TYp PCp PMp, fun xs => ⟨inv_0, fun _ n _ hk hI => law_step (by omega) hI xs n⟩⟩
