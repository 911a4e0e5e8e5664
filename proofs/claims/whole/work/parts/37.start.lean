/-! the beginning: both objects are made, and the world is as mem0 has it -/
def mem0 : Mem := (fun c => if c = 3 then (fun k => if k = 3 then -1 else 0) else if c = 7 then (fun k => if k = 4 then -1 else 0) else if c = 15 then (fun k => if k = 0 then 1 else 0) else if c < 44 then (fun _ => 0) else if (c - 44) % 5 = 0 then (fun k => if k = 4 then 1 else 0) else (fun _ => 0), fun _ _ => 0)
def adF (q q' : Nat) (u : uBe) (a : Nat → Nat) : Nat → Nat := fun c => if c = 0 then q else if c = 1 then u.1 else if c = 2 then u.2.1.1 else if c = 3 then u.2.2.1 else if c < 7 then u.2.2.2.1 c else if c = 7 then u.2.2.2.2.1 else if c < 11 then u.2.2.2.2.2.1 c else if c = 11 then u.2.2.2.2.2.2.1 else if c < 15 then u.2.2.2.2.2.2.2 c else if c = 15 then q' else if c < 44 then a c else u.2.1.2 ((c - 44) / 5) ((c - 44) % 5)
def posB (c : Nat) : Nat := if c < 3 then 29 + c else if c < 15 then c + 114 else if c < 44 then c - 15 else 32 + 5 * (16 - (c - 44) / 5) + (c - 44) % 5
abbrev wB (g : Gw) (q q' : Nat) (u : uBe) (a : Nat → Nat) : va_W := w_Mo g q' a ++ (w_Be g q u ++ [])
def cellsB : List Nat := [0, 1] ++ (List.range 126).map (fun c => c + 3)
set_option maxHeartbeats 4000000 in
set_option maxRecDepth 100000 in
theorem B_all (G : va_G × ClassId × ClassId × ClassId) (ad0 : Nat → Nat) (q q' : Nat) (u : uBe) (a : Nat → Nat) : ∀ c ∈ cellsB, (wB (ad0, G) q q' u a)[posB c]? = some (ad (adF q q' u a, G) c, ent (adF q q' u a, G) mem0 c) :=
  List.map_inj_left.mp rfl
theorem B_2 (G : va_G × ClassId × ClassId × ClassId) (ad0 : Nat → Nat) (q q' : Nat) (u : uBe) (a : Nat → Nat) : (wB (ad0, G) q q' u a)[posB 2]? = some (ad (adF q q' u a, G) 2, ent (adF q q' u a, G) mem0 2) := by
  have h1 : (wB (ad0, G) q q' u a)[posB 2]? = some (u.2.1.1, aR (ad0, G) 17 (rgF u.2.1.2 17)) := rfl
  have h2 : ent (adF q q' u a, G) mem0 2 = aR (ad0, G) 17 (rgF u.2.1.2 17) := by
    show entV _ 2 _ _ = _
    rw [e_2]
    have hf : (fun i => if i < 17 then some (ad (adF q q' u a, G) (cP i)) else none) = rgF u.2.1.2 17 := by
      funext i
      unfold rgF
      by_cases hi : i < 17
      · rw [if_pos hi, if_pos hi]
        have hc : ad (adF q q' u a, G) (cP i) = u.2.1.2 i 0 := by
          show adF q q' u a (44 + 5 * i) = _
          unfold adF
          rw [if_neg (by omega), if_neg (by omega), if_neg (by omega), if_neg (by omega), if_neg (by omega), if_neg (by omega), if_neg (by omega), if_neg (by omega), if_neg (by omega), if_neg (by omega), if_neg (by omega)]
          have e1 : (44 + 5 * i - 44) / 5 = i := by omega
          have e2 : (44 + 5 * i - 44) % 5 = 0 := by omega
          rw [e1, e2]
        rw [hc]
      · rw [if_neg hi, if_neg hi]
    rw [hf]
    rfl
  rw [h1, h2]
  rfl
theorem B_at (G : va_G × ClassId × ClassId × ClassId) (ad0 : Nat → Nat) (q q' : Nat) (u : uBe) (a : Nat → Nat) {c : Nat} (hc : c < 129) : (wB (ad0, G) q q' u a)[posB c]? = some (ad (adF q q' u a, G) c, ent (adF q q' u a, G) mem0 c) := by
  by_cases h2 : c = 2
  · subst h2
    exact B_2 G ad0 q q' u a
  · refine B_all G ad0 q q' u a c ?_
    unfold cellsB
    by_cases h : c < 2
    · refine List.mem_append_left _ ?_
      rcases (by omega : c = 0 ∨ c = 1) with rfl | rfl <;> decide
    · refine List.mem_append_right _ (List.mem_map.mpr ⟨c - 3, List.mem_range.mpr (by omega), by omega⟩)
theorem posB_inj {i j : Nat} (hi : i < 129) (hj : j < 129) (h : posB i = posB j) : i = j := by
  unfold posB at h
  repeat' split at h
  all_goals omega
/-- from the list of cells to the world -/
theorem B_world {G : va_G × ClassId × ClassId × ClassId} {ad0 : Nat → Nat} {q q' : Nat} {u : uBe} {a : Nat → Nat} {H : Heap} {A : Nat → Prop} (hP : va_P G.1 vwCl (wB (ad0, G) q q' u a) H) (hD : va_D A (wB (ad0, G) q q' u a)) : Wd (adF q q' u a, G) mem0 H ∧ wInj (adF q q' u a, G) ∧ ∀ x, wA (adF q q' u a, G) x → A x := by
  refine ⟨fun k x hx => ?_, fun i j hi hj e => ?_, fun x hx => ?_⟩
  · obtain ⟨hk, rfl⟩ := ws_some hx
    exact hP (posB k) _ (B_at G ad0 q q' u a hk)
  · exact posB_inj hi hj (hD.1 _ _ _ _ (B_at G ad0 q q' u a hi) (B_at G ad0 q q' u a hj) e)
  · obtain ⟨k, hk, rfl⟩ := hx
    exact hD.2 _ _ (B_at G ad0 q q' u a hk)
