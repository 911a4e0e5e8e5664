/-! THE MEMORY of class and reference: one picture for both; behind the constructors no cell is made. Mem: int cells and long cells by (cell number, place). Gw: the addresses by cell number, the tables' numbers, the classes of int[], long[], Program[]. -/
abbrev Mem : Type := (Nat → Nat → Int32) × (Nat → Nat → Int64)
abbrev Gw : Type := (Nat → Nat) × va_G × ClassId × ClassId × ClassId
def rI (σ : Mem) (c : Nat) (f : Nat → Int32) : Mem := (fun a => if a = c then f else σ.1 a, σ.2)
def rL (σ : Mem) (c : Nat) (f : Nat → Int64) : Mem := (σ.1, fun a => if a = c then f else σ.2 a)
abbrev sI (σ : Mem) (c k : Nat) (v : Int32) : Mem := rI σ c (upd (σ.1 c) k v)
abbrev sL (σ : Mem) (c k : Nat) (v : Int64) : Mem := rL σ c (vp_updL (σ.2 c) k v)
theorem rI_at (σ : Mem) (c : Nat) (f : Nat → Int32) : (rI σ c f).1 c = f := if_pos rfl
theorem rI_ne {σ : Mem} {c a : Nat} {f : Nat → Int32} (h : a ≠ c) : (rI σ c f).1 a = σ.1 a := if_neg h
theorem rI_L (σ : Mem) (c : Nat) (f : Nat → Int32) : (rI σ c f).2 = σ.2 := rfl
theorem rL_at (σ : Mem) (c : Nat) (f : Nat → Int64) : (rL σ c f).2 c = f := if_pos rfl
theorem rL_ne {σ : Mem} {c a : Nat} {f : Nat → Int64} (h : a ≠ c) : (rL σ c f).2 a = σ.2 a := if_neg h
theorem rL_I (σ : Mem) (c : Nat) (f : Nat → Int64) : (rL σ c f).1 = σ.1 := rfl
def ad (g : Gw) (c : Nat) : Nat := g.1 c
def cP (i : Nat) : Nat := 44 + 5 * i
def cPk (i : Nat) : Nat := 45 + 5 * i
def cPf (i : Nat) : Nat := 46 + 5 * i
def cPt (i : Nat) : Nat := 47 + 5 * i
def cPl (i : Nat) : Nat := 48 + 5 * i
/-- int[n], long[n] -/
def aI (g : Gw) (n : Nat) (f : Nat → Int32) : va_E := .inl (g.2.2.1, n, .inl f)
def aL (g : Gw) (n : Nat) (f : Nat → Int64) : va_E := .inl (g.2.2.2.1, n, .inr (.inl f))
def aR (g : Gw) (n : Nat) (f : Nat → Option Nat) : va_E := .inl (g.2.2.2.2, n, .inr (.inr (.inr (.inr f))))
abbrev R_Prog : String := "TermBench$Program"
def en_0 (g : Gw) (fI : Nat → Int32) (fL : Nat → Int64) : va_E := .inr (5, [.ref (ad g 1), .ref (ad g 3), .ref (ad g 7), .ref (ad g 11)])
def en_1 (g : Gw) (fI : Nat → Int32) (fL : Nat → Int64) : va_E := .inr (0, [.ref (ad g 2), .int (fI 1), .int (fI 2), .int (fI 3), .int (fI 4)])
def en_2 (g : Gw) (fI : Nat → Int32) (fL : Nat → Int64) : va_E := aR g 17 (fun i => if i < 17 then some (ad g (cP i)) else none)
def en_3 (g : Gw) (fI : Nat → Int32) (fL : Nat → Int64) : va_E := .inr (4, [.ref (ad g 4), .ref (ad g 5), .ref (ad g 6), .int (fI 3)])
def en_4 (g : Gw) (fI : Nat → Int32) (fL : Nat → Int64) : va_E := aL g 40 fL
def en_5 (g : Gw) (fI : Nat → Int32) (fL : Nat → Int64) : va_E := aL g 40 fL
def en_6 (g : Gw) (fI : Nat → Int32) (fL : Nat → Int64) : va_E := aI g 40 fI
def en_7 (g : Gw) (fI : Nat → Int32) (fL : Nat → Int64) : va_E := .inr (2, [.ref (ad g 8), .ref (ad g 9), .ref (ad g 10), .int (fI 3), .int (fI 4)])
def en_8 (g : Gw) (fI : Nat → Int32) (fL : Nat → Int64) : va_E := aL g 220 fL
def en_9 (g : Gw) (fI : Nat → Int32) (fL : Nat → Int64) : va_E := aI g 40 fI
def en_10 (g : Gw) (fI : Nat → Int32) (fL : Nat → Int64) : va_E := aI g 40 fI
def en_11 (g : Gw) (fI : Nat → Int32) (fL : Nat → Int64) : va_E := .inr (1, [.ref (ad g 12), .ref (ad g 13), .ref (ad g 14), .int (fI 3), .int (fI 4), .int (fI 5)])
def en_12 (g : Gw) (fI : Nat → Int32) (fL : Nat → Int64) : va_E := aI g 134 fI
def en_13 (g : Gw) (fI : Nat → Int32) (fL : Nat → Int64) : va_E := aL g 134 fL
def en_14 (g : Gw) (fI : Nat → Int32) (fL : Nat → Int64) : va_E := aI g 134 fI
def en_15 (g : Gw) (fI : Nat → Int32) (fL : Nat → Int64) : va_E := .inr (6, [.int (fI 0), .int (fI 1), .ref (ad g 16), .ref (ad g 17), .ref (ad g 18), .int (fI 5), .int (fI 6), .ref (ad g 19), .ref (ad g 20), .ref (ad g 21), .ref (ad g 22), .ref (ad g 23), .int (fI 12), .ref (ad g 24), .ref (ad g 25), .ref (ad g 26), .int (fI 16), .int (fI 17), .ref (ad g 27), .ref (ad g 28), .ref (ad g 29), .ref (ad g 30), .ref (ad g 31), .ref (ad g 32), .int (fI 24), .int (fI 25), .int (fI 26), .ref (ad g 33), .ref (ad g 34), .ref (ad g 35), .ref (ad g 36), .ref (ad g 37), .ref (ad g 38), .int (fI 33), .int (fI 34), .int (fI 35), .int (fI 36), .ref (ad g 39), .ref (ad g 40), .ref (ad g 41), .ref (ad g 42), .ref (ad g 43)])
def en_16 (g : Gw) (fI : Nat → Int32) (fL : Nat → Int64) : va_E := aI g 48 fI
def en_17 (g : Gw) (fI : Nat → Int32) (fL : Nat → Int64) : va_E := aI g 48 fI
def en_18 (g : Gw) (fI : Nat → Int32) (fL : Nat → Int64) : va_E := aL g 48 fL
def en_19 (g : Gw) (fI : Nat → Int32) (fL : Nat → Int64) : va_E := aI g 33 fI
def en_20 (g : Gw) (fI : Nat → Int32) (fL : Nat → Int64) : va_E := aI g 33 fI
def en_21 (g : Gw) (fI : Nat → Int32) (fL : Nat → Int64) : va_E := aI g 1320 fI
def en_22 (g : Gw) (fI : Nat → Int32) (fL : Nat → Int64) : va_E := aI g 1320 fI
def en_23 (g : Gw) (fI : Nat → Int32) (fL : Nat → Int64) : va_E := aL g 1320 fL
def en_24 (g : Gw) (fI : Nat → Int32) (fL : Nat → Int64) : va_E := aL g 48 fL
def en_25 (g : Gw) (fI : Nat → Int32) (fL : Nat → Int64) : va_E := aL g 48 fL
def en_26 (g : Gw) (fI : Nat → Int32) (fL : Nat → Int64) : va_E := aI g 48 fI
def en_27 (g : Gw) (fI : Nat → Int32) (fL : Nat → Int64) : va_E := aI g 2400 fI
def en_28 (g : Gw) (fI : Nat → Int32) (fL : Nat → Int64) : va_E := aI g 2400 fI
def en_29 (g : Gw) (fI : Nat → Int32) (fL : Nat → Int64) : va_E := aI g 48 fI
def en_30 (g : Gw) (fI : Nat → Int32) (fL : Nat → Int64) : va_E := aI g 16 fI
def en_31 (g : Gw) (fI : Nat → Int32) (fL : Nat → Int64) : va_E := aI g 16 fI
def en_32 (g : Gw) (fI : Nat → Int32) (fL : Nat → Int64) : va_E := aI g 32 fI
def en_33 (g : Gw) (fI : Nat → Int32) (fL : Nat → Int64) : va_E := aI g 61 fI
def en_34 (g : Gw) (fI : Nat → Int32) (fL : Nat → Int64) : va_E := aI g 61 fI
def en_35 (g : Gw) (fI : Nat → Int32) (fL : Nat → Int64) : va_E := aI g 61 fI
def en_36 (g : Gw) (fI : Nat → Int32) (fL : Nat → Int64) : va_E := aI g 61 fI
def en_37 (g : Gw) (fI : Nat → Int32) (fL : Nat → Int64) : va_E := aI g 61 fI
def en_38 (g : Gw) (fI : Nat → Int32) (fL : Nat → Int64) : va_E := aI g 61 fI
def en_39 (g : Gw) (fI : Nat → Int32) (fL : Nat → Int64) : va_E := aI g 402 fI
def en_40 (g : Gw) (fI : Nat → Int32) (fL : Nat → Int64) : va_E := aI g 402 fI
def en_41 (g : Gw) (fI : Nat → Int32) (fL : Nat → Int64) : va_E := aI g 402 fI
def en_42 (g : Gw) (fI : Nat → Int32) (fL : Nat → Int64) : va_E := aI g 402 fI
def en_43 (g : Gw) (fI : Nat → Int32) (fL : Nat → Int64) : va_E := aI g 402 fI
def entT (g : Gw) (fI : Nat → Int32) (fL : Nat → Int64) : List va_E := [en_0 g fI fL, en_1 g fI fL, en_2 g fI fL, en_3 g fI fL, en_4 g fI fL, en_5 g fI fL, en_6 g fI fL, en_7 g fI fL, en_8 g fI fL, en_9 g fI fL, en_10 g fI fL, en_11 g fI fL, en_12 g fI fL, en_13 g fI fL, en_14 g fI fL, en_15 g fI fL, en_16 g fI fL, en_17 g fI fL, en_18 g fI fL, en_19 g fI fL, en_20 g fI fL, en_21 g fI fL, en_22 g fI fL, en_23 g fI fL, en_24 g fI fL, en_25 g fI fL, en_26 g fI fL, en_27 g fI fL, en_28 g fI fL, en_29 g fI fL, en_30 g fI fL, en_31 g fI fL, en_32 g fI fL, en_33 g fI fL, en_34 g fI fL, en_35 g fI fL, en_36 g fI fL, en_37 g fI fL, en_38 g fI fL, en_39 g fI fL, en_40 g fI fL, en_41 g fI fL, en_42 g fI fL, en_43 g fI fL]
def en_P (g : Gw) (c : Nat) (fI : Nat → Int32) : va_E := .inr (3, [.ref (ad g (c + 1)), .ref (ad g (c + 2)), .ref (ad g (c + 3)), .ref (ad g (c + 4)), .int (fI 4), .int (fI 5)])
def entV (g : Gw) (c : Nat) (fI : Nat → Int32) (fL : Nat → Int64) : va_E :=
  if c < 44 then ((entT g fI fL)[c]?).getD (.inr (0, [])) else if (c - 44) % 5 = 0 then en_P g c fI else if (c - 44) % 5 = 3 then aL g 40 fL else aI g 40 fI
theorem e_0 (g : Gw) (fI : Nat → Int32) (fL : Nat → Int64) : entV g 0 fI fL = .inr (5, [.ref (ad g 1), .ref (ad g 3), .ref (ad g 7), .ref (ad g 11)]) := rfl
theorem e_1 (g : Gw) (fI : Nat → Int32) (fL : Nat → Int64) : entV g 1 fI fL = .inr (0, [.ref (ad g 2), .int (fI 1), .int (fI 2), .int (fI 3), .int (fI 4)]) := rfl
theorem e_2 (g : Gw) (fI : Nat → Int32) (fL : Nat → Int64) : entV g 2 fI fL = aR g 17 (fun i => if i < 17 then some (ad g (cP i)) else none) := rfl
theorem e_3 (g : Gw) (fI : Nat → Int32) (fL : Nat → Int64) : entV g 3 fI fL = .inr (4, [.ref (ad g 4), .ref (ad g 5), .ref (ad g 6), .int (fI 3)]) := rfl
theorem e_4 (g : Gw) (fI : Nat → Int32) (fL : Nat → Int64) : entV g 4 fI fL = aL g 40 fL := rfl
theorem e_5 (g : Gw) (fI : Nat → Int32) (fL : Nat → Int64) : entV g 5 fI fL = aL g 40 fL := rfl
theorem e_6 (g : Gw) (fI : Nat → Int32) (fL : Nat → Int64) : entV g 6 fI fL = aI g 40 fI := rfl
theorem e_7 (g : Gw) (fI : Nat → Int32) (fL : Nat → Int64) : entV g 7 fI fL = .inr (2, [.ref (ad g 8), .ref (ad g 9), .ref (ad g 10), .int (fI 3), .int (fI 4)]) := rfl
theorem e_8 (g : Gw) (fI : Nat → Int32) (fL : Nat → Int64) : entV g 8 fI fL = aL g 220 fL := rfl
theorem e_9 (g : Gw) (fI : Nat → Int32) (fL : Nat → Int64) : entV g 9 fI fL = aI g 40 fI := rfl
theorem e_10 (g : Gw) (fI : Nat → Int32) (fL : Nat → Int64) : entV g 10 fI fL = aI g 40 fI := rfl
theorem e_11 (g : Gw) (fI : Nat → Int32) (fL : Nat → Int64) : entV g 11 fI fL = .inr (1, [.ref (ad g 12), .ref (ad g 13), .ref (ad g 14), .int (fI 3), .int (fI 4), .int (fI 5)]) := rfl
theorem e_12 (g : Gw) (fI : Nat → Int32) (fL : Nat → Int64) : entV g 12 fI fL = aI g 134 fI := rfl
theorem e_13 (g : Gw) (fI : Nat → Int32) (fL : Nat → Int64) : entV g 13 fI fL = aL g 134 fL := rfl
theorem e_14 (g : Gw) (fI : Nat → Int32) (fL : Nat → Int64) : entV g 14 fI fL = aI g 134 fI := rfl
theorem e_15 (g : Gw) (fI : Nat → Int32) (fL : Nat → Int64) : entV g 15 fI fL = .inr (6, [.int (fI 0), .int (fI 1), .ref (ad g 16), .ref (ad g 17), .ref (ad g 18), .int (fI 5), .int (fI 6), .ref (ad g 19), .ref (ad g 20), .ref (ad g 21), .ref (ad g 22), .ref (ad g 23), .int (fI 12), .ref (ad g 24), .ref (ad g 25), .ref (ad g 26), .int (fI 16), .int (fI 17), .ref (ad g 27), .ref (ad g 28), .ref (ad g 29), .ref (ad g 30), .ref (ad g 31), .ref (ad g 32), .int (fI 24), .int (fI 25), .int (fI 26), .ref (ad g 33), .ref (ad g 34), .ref (ad g 35), .ref (ad g 36), .ref (ad g 37), .ref (ad g 38), .int (fI 33), .int (fI 34), .int (fI 35), .int (fI 36), .ref (ad g 39), .ref (ad g 40), .ref (ad g 41), .ref (ad g 42), .ref (ad g 43)]) := rfl
theorem e_16 (g : Gw) (fI : Nat → Int32) (fL : Nat → Int64) : entV g 16 fI fL = aI g 48 fI := rfl
theorem e_17 (g : Gw) (fI : Nat → Int32) (fL : Nat → Int64) : entV g 17 fI fL = aI g 48 fI := rfl
theorem e_18 (g : Gw) (fI : Nat → Int32) (fL : Nat → Int64) : entV g 18 fI fL = aL g 48 fL := rfl
theorem e_19 (g : Gw) (fI : Nat → Int32) (fL : Nat → Int64) : entV g 19 fI fL = aI g 33 fI := rfl
theorem e_20 (g : Gw) (fI : Nat → Int32) (fL : Nat → Int64) : entV g 20 fI fL = aI g 33 fI := rfl
theorem e_21 (g : Gw) (fI : Nat → Int32) (fL : Nat → Int64) : entV g 21 fI fL = aI g 1320 fI := rfl
theorem e_22 (g : Gw) (fI : Nat → Int32) (fL : Nat → Int64) : entV g 22 fI fL = aI g 1320 fI := rfl
theorem e_23 (g : Gw) (fI : Nat → Int32) (fL : Nat → Int64) : entV g 23 fI fL = aL g 1320 fL := rfl
theorem e_24 (g : Gw) (fI : Nat → Int32) (fL : Nat → Int64) : entV g 24 fI fL = aL g 48 fL := rfl
theorem e_25 (g : Gw) (fI : Nat → Int32) (fL : Nat → Int64) : entV g 25 fI fL = aL g 48 fL := rfl
theorem e_26 (g : Gw) (fI : Nat → Int32) (fL : Nat → Int64) : entV g 26 fI fL = aI g 48 fI := rfl
theorem e_27 (g : Gw) (fI : Nat → Int32) (fL : Nat → Int64) : entV g 27 fI fL = aI g 2400 fI := rfl
theorem e_28 (g : Gw) (fI : Nat → Int32) (fL : Nat → Int64) : entV g 28 fI fL = aI g 2400 fI := rfl
theorem e_29 (g : Gw) (fI : Nat → Int32) (fL : Nat → Int64) : entV g 29 fI fL = aI g 48 fI := rfl
theorem e_30 (g : Gw) (fI : Nat → Int32) (fL : Nat → Int64) : entV g 30 fI fL = aI g 16 fI := rfl
theorem e_31 (g : Gw) (fI : Nat → Int32) (fL : Nat → Int64) : entV g 31 fI fL = aI g 16 fI := rfl
theorem e_32 (g : Gw) (fI : Nat → Int32) (fL : Nat → Int64) : entV g 32 fI fL = aI g 32 fI := rfl
theorem e_33 (g : Gw) (fI : Nat → Int32) (fL : Nat → Int64) : entV g 33 fI fL = aI g 61 fI := rfl
theorem e_34 (g : Gw) (fI : Nat → Int32) (fL : Nat → Int64) : entV g 34 fI fL = aI g 61 fI := rfl
theorem e_35 (g : Gw) (fI : Nat → Int32) (fL : Nat → Int64) : entV g 35 fI fL = aI g 61 fI := rfl
theorem e_36 (g : Gw) (fI : Nat → Int32) (fL : Nat → Int64) : entV g 36 fI fL = aI g 61 fI := rfl
theorem e_37 (g : Gw) (fI : Nat → Int32) (fL : Nat → Int64) : entV g 37 fI fL = aI g 61 fI := rfl
theorem e_38 (g : Gw) (fI : Nat → Int32) (fL : Nat → Int64) : entV g 38 fI fL = aI g 61 fI := rfl
theorem e_39 (g : Gw) (fI : Nat → Int32) (fL : Nat → Int64) : entV g 39 fI fL = aI g 402 fI := rfl
theorem e_40 (g : Gw) (fI : Nat → Int32) (fL : Nat → Int64) : entV g 40 fI fL = aI g 402 fI := rfl
theorem e_41 (g : Gw) (fI : Nat → Int32) (fL : Nat → Int64) : entV g 41 fI fL = aI g 402 fI := rfl
theorem e_42 (g : Gw) (fI : Nat → Int32) (fL : Nat → Int64) : entV g 42 fI fL = aI g 402 fI := rfl
theorem e_43 (g : Gw) (fI : Nat → Int32) (fL : Nat → Int64) : entV g 43 fI fL = aI g 402 fI := rfl
theorem l_cP {i : Nat} (h : i < 17) : cP i < 129 := by unfold cP; omega
theorem e_cP (g : Gw) {i : Nat} (h : i < 17) (fI : Nat → Int32) (fL : Nat → Int64) : entV g (cP i) fI fL = .inr (3, [.ref (ad g (cPk i)), .ref (ad g (cPf i)), .ref (ad g (cPt i)), .ref (ad g (cPl i)), .int (fI 4), .int (fI 5)]) := by
  have h1 : ¬ cP i < 44 := by unfold cP; omega
  have h2 : (cP i - 44) % 5 = 0 := by unfold cP; omega
  unfold entV
  rw [if_neg h1, h2]
  rw [if_pos rfl]
  unfold en_P
  have a1 : cP i + 1 = cPk i := by unfold cP cPk; omega
  have a2 : cP i + 2 = cPf i := by unfold cP cPf; omega
  have a3 : cP i + 3 = cPt i := by unfold cP cPt; omega
  have a4 : cP i + 4 = cPl i := by unfold cP cPl; omega
  rw [a1, a2, a3, a4]
theorem l_cPk {i : Nat} (h : i < 17) : cPk i < 129 := by unfold cPk; omega
theorem e_cPk (g : Gw) {i : Nat} (h : i < 17) (fI : Nat → Int32) (fL : Nat → Int64) : entV g (cPk i) fI fL = aI g 40 fI := by
  have h1 : ¬ cPk i < 44 := by unfold cPk; omega
  have h2 : (cPk i - 44) % 5 = 1 := by unfold cPk; omega
  unfold entV
  rw [if_neg h1, h2]
  rfl
theorem l_cPf {i : Nat} (h : i < 17) : cPf i < 129 := by unfold cPf; omega
theorem e_cPf (g : Gw) {i : Nat} (h : i < 17) (fI : Nat → Int32) (fL : Nat → Int64) : entV g (cPf i) fI fL = aI g 40 fI := by
  have h1 : ¬ cPf i < 44 := by unfold cPf; omega
  have h2 : (cPf i - 44) % 5 = 2 := by unfold cPf; omega
  unfold entV
  rw [if_neg h1, h2]
  rfl
theorem l_cPt {i : Nat} (h : i < 17) : cPt i < 129 := by unfold cPt; omega
theorem e_cPt (g : Gw) {i : Nat} (h : i < 17) (fI : Nat → Int32) (fL : Nat → Int64) : entV g (cPt i) fI fL = aL g 40 fL := by
  have h1 : ¬ cPt i < 44 := by unfold cPt; omega
  have h2 : (cPt i - 44) % 5 = 3 := by unfold cPt; omega
  unfold entV
  rw [if_neg h1, h2]
  rfl
theorem l_cPl {i : Nat} (h : i < 17) : cPl i < 129 := by unfold cPl; omega
theorem e_cPl (g : Gw) {i : Nat} (h : i < 17) (fI : Nat → Int32) (fL : Nat → Int64) : entV g (cPl i) fI fL = aI g 40 fI := by
  have h1 : ¬ cPl i < 44 := by unfold cPl; omega
  have h2 : (cPl i - 44) % 5 = 4 := by unfold cPl; omega
  unfold entV
  rw [if_neg h1, h2]
  rfl
