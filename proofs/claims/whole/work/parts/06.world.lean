/-! THE WORLD: every cell of class and reference by its number; rows of the kit over it -/
def ent (g : Gw) (σ : Mem) (c : Nat) : va_E := entV g c (σ.1 c) (σ.2 c)
def wsOf (g : Gw) (σ : Mem) : va_W := (List.range 129).map (fun c => (ad g c, ent g σ c))
def gT (g : Gw) : List (ClassId × FieldType) := [(g.2.2.1, .int), (g.2.2.2.1, .long), (g.2.2.2.2, .object R_Prog)]
def Wd (g : Gw) (σ : Mem) (H : Heap) : Prop := va_P g.2.1 vwCl (wsOf g σ) H
def wA (g : Gw) : Nat → Prop := fun q => ∃ c, c < 129 ∧ q = ad g c
def wInj (g : Gw) : Prop := ∀ i j, i < 129 → j < 129 → ad g i = ad g j → i = j
theorem ws_at (g : Gw) (σ : Mem) {c : Nat} (h : c < 129) : (wsOf g σ)[c]? = some (ad g c, ent g σ c) := by
  simp [wsOf, h]
theorem ws_some {g : Gw} {σ : Mem} {c : Nat} {q : Nat × va_E} (h : (wsOf g σ)[c]? = some q) : c < 129 ∧ q = (ad g c, ent g σ c) := by
  have hc : c < 129 := by
    have := (List.getElem?_eq_some_iff.mp h).1
    simpa [wsOf] using this
  exact ⟨hc, Option.some.inj (h.symm.trans (ws_at g σ hc))⟩
theorem ws_D {g : Gw} (hi : wInj g) (σ : Mem) : va_D (wA g) (wsOf g σ) := by
  refine ⟨fun i j p q hp hq e => ?_, fun k q hk => ?_⟩
  · obtain ⟨h1, rfl⟩ := ws_some hp
    obtain ⟨h2, rfl⟩ := ws_some hq
    exact hi i j h1 h2 e
  · obtain ⟨h1, rfl⟩ := ws_some hk
    exact ⟨k, h1, rfl⟩
theorem ws_set {g : Gw} {σ σ' : Mem} {c : Nat} {e : va_E} (h : c < 129) (he : ent g σ' c = e) (ho : ∀ a, a ≠ c → ent g σ' a = ent g σ a) : (wsOf g σ).set c (ad g c, e) = wsOf g σ' := by
  apply List.ext_getElem?
  intro k
  rw [List.getElem?_set]
  by_cases hk : c = k
  · subst hk
    rw [if_pos rfl, ws_at g σ' h, he]
    simp [wsOf, h]
  · rw [if_neg hk]
    by_cases hl : k < 129
    · rw [ws_at g σ hl, ws_at g σ' hl, ho k (fun q => hk q.symm)]
    · simp [wsOf, hl]
theorem ws_setI {g : Gw} {σ : Mem} {c : Nat} {f : Nat → Int32} {e : va_E} (h : c < 129) (he : entV g c f (σ.2 c) = e) : (wsOf g σ).set c (ad g c, e) = wsOf g (rI σ c f) :=
  ws_set h (by show entV g c ((rI σ c f).1 c) _ = e; rw [rI_at]; exact he) (fun a ha => by show entV g a ((rI σ c f).1 a) _ = _; rw [rI_ne ha]; rfl)
theorem ws_setL {g : Gw} {σ : Mem} {c : Nat} {f : Nat → Int64} {e : va_E} (h : c < 129) (he : entV g c (σ.1 c) f = e) : (wsOf g σ).set c (ad g c, e) = wsOf g (rL σ c f) :=
  ws_set h (by show entV g c _ ((rL σ c f).2 c) = e; rw [rL_at]; exact he) (fun a ha => by show entV g a _ ((rL σ c f).2 a) = _; rw [rL_ne ha]; rfl)
/-- pure code: a guard, a name, a call behind a call, a loop -/
def inb (i : Int32) (n : Nat) : Bool := !(decide (i < 0) || decide (n ≤ i.toNatClampNeg))
theorem inb_in {i : Int32} {n : Nat} (h : inb i n = true) : vp_in i n := by
  unfold inb at h
  unfold vp_in
  simpa using h
theorem inb_lt {i : Int32} {n : Nat} (h : inb i n = true) : i.toNatClampNeg < n := Nat.not_le.mp (fun q => inb_in h (Or.inr q))
def gd {α : Type} (b : Bool) (x : Option α) : Option α := if b then x else none
theorem gd_some {α : Type} {b : Bool} {x : Option α} {z : α} (h : gd b x = some z) : b = true ∧ x = some z := by
  cases b with
  | true => exact ⟨rfl, h⟩
  | false => cases h
def lt_ {α β : Type} (a : α) (f : α → β) : β := f a
theorem lt_some {α β : Type} {a : α} {f : α → Option β} {z : β} (h : lt_ a f = some z) : ∃ x, x = a ∧ f x = some z := ⟨a, rfl, h⟩
def bn {α β : Type} (x : Option (α × Mem)) (f : α → Mem → Option β) : Option β := match x with
  | none => none
  | some q => f q.1 q.2
theorem bn_some {α β : Type} {x : Option (α × Mem)} {f : α → Mem → Option β} {z : β} (h : bn x f = some z) : ∃ r σ, x = some (r, σ) ∧ f r σ = some z := by
  cases x with
  | none => cases h
  | some q => exact ⟨q.1, q.2, rfl, h⟩
theorem if_t {α : Type} {c : Prop} [Decidable c] {A B : α} {z : α} (h : (if c then A else B) = z) (hc : c) : A = z := by rw [if_pos hc] at h; exact h
theorem if_f {α : Type} {c : Prop} [Decidable c] {A B : α} {z : α} (h : (if c then A else B) = z) (hc : ¬ c) : B = z := by rw [if_neg hc] at h; exact h
def loopF {α β : Type} (body : α → Option (α ⊕ β)) : Nat → α → Option β
  | 0, _ => none
  | n + 1, a => match body a with
    | none => none
    | some (.inl b) => loopF body n b
    | some (.inr z) => some z
theorem loopF_succ {α β : Type} {body : α → Option (α ⊕ β)} {n : Nat} {a : α} {Z : β} (h : loopF body (n + 1) a = some Z) : ∃ o, body a = some o ∧ (∀ b, o = .inl b → loopF body n b = some Z) ∧ (∀ z, o = .inr z → z = Z) := by
  unfold loopF at h
  cases hb : body a with
  | none => rw [hb] at h; cases h
  | some o =>
    rw [hb] at h
    refine ⟨o, rfl, fun b e => ?_, fun z e => ?_⟩
    · subst e; exact h
    · subst e; exact Option.some.inj h
def inrM {α β : Type} (x : Option β) : Option (α ⊕ β) := match x with
  | none => none
  | some z => some (.inr z)
theorem inrM_some {α β : Type} {x : Option β} {o : α ⊕ β} (h : inrM x = some o) : ∃ z, x = some z ∧ o = .inr z := by
  cases x with
  | none => cases h
  | some z => exact ⟨z, rfl, (Option.some.inj h).symm⟩
/-- what a method's body knows -/
def Cx (p : Program) (s : State) (m : MethodId) (args : Array Value) (meth : Method) (c : Code) (cc : ByteArray) (nL : Nat) (own : String) (g : Gw) : Prop :=
  p.tables.exec = Jvm.exec ∧ c.code = cc ∧ c.maxLocals = nL ∧ s.vm.findClass own = some m.cls ∧ (∀ w ∈ qw, w.before args s = true) ∧ meth.locks = false ∧ va_K g.2.1 vwCl (gT g) s ∧ wInj g
def Rk (R : Room) (d cells slots : Nat) : Prop := d ≤ R.frames ∧ 64 * d ≤ R.locals ∧ cells ≤ R.cells ∧ slots ≤ R.slots
abbrev rmD (d : Nat) : Room := { frames := d, cells := 0, slots := 0, locals := 64 * d }
abbrev kPc (g : Gw) (av : List Value) (σ : Mem) : Array Value → State → Prop := va_Pc av (fun U => Wd g σ U.heap ∧ va_K g.2.1 vwCl (gT g) U)
abbrev kQi (g : Gw) (r : Int32) (σ : Mem) : Array Value → State → Outcome → State → Prop := va_Qi (fun (x : Int32) (u : Mem) => x = r ∧ u = σ) (fun u t => Wd g u t.heap) (wA g)
abbrev kQl (g : Gw) (r : Int64) (σ : Mem) : Array Value → State → Outcome → State → Prop := va_Ql (fun (x : Int64) (u : Mem) => x = r ∧ u = σ) (fun u t => Wd g u t.heap) (wA g)
abbrev kQv (g : Gw) (σ : Mem) : Array Value → State → Outcome → State → Prop := va_Qv (fun (u : Mem) => u = σ) (fun u t => Wd g u t.heap) (wA g)
abbrev kQr (g : Gw) (a : Nat) (σ : Mem) : Array Value → State → Outcome → State → Prop := va_Qr (fun (u : Mem) => u = σ) (fun u q t => q = ad g a ∧ Wd g u t.heap) (wA g)
/-- contracts: at depth d, from memory σ, with these arguments: the answer and the memory behind it -/
abbrev KI (l : Launch) (y : MethodName) (cc : ByteArray) (nL : Nat) (ret : Option FieldType) (d : Nat) (g : Gw) (av : List Value) (σ : Mem) (r : Int32) (σ' : Mem) : Prop := Met l y (Cond.code y cc nL ret :: qw) (rmD d) (kPc g av σ) (kQi g r σ') 0 0 (wA g)
abbrev KL (l : Launch) (y : MethodName) (cc : ByteArray) (nL : Nat) (ret : Option FieldType) (d : Nat) (g : Gw) (av : List Value) (σ : Mem) (r : Int64) (σ' : Mem) : Prop := Met l y (Cond.code y cc nL ret :: qw) (rmD d) (kPc g av σ) (kQl g r σ') 0 0 (wA g)
abbrev KV (l : Launch) (y : MethodName) (cc : ByteArray) (nL : Nat) (ret : Option FieldType) (d : Nat) (g : Gw) (av : List Value) (σ : Mem) (σ' : Mem) : Prop := Met l y (Cond.code y cc nL ret :: qw) (rmD d) (kPc g av σ) (kQv g σ') 0 0 (wA g)
abbrev KR (l : Launch) (y : MethodName) (cc : ByteArray) (nL : Nat) (ret : Option FieldType) (d : Nat) (g : Gw) (av : List Value) (σ : Mem) (a : Nat) (σ' : Mem) : Prop := Met l y (Cond.code y cc nL ret :: qw) (rmD d) (kPc g av σ) (kQr g a σ') 0 0 (wA g)
section MW
variable {p : Program} {l : Launch} {e : Env} {R : Room} {s : State} {m : MethodId} {args : Array Value} {below : List Frame} {meth : Method} {c : Code} {H : Heap} {locs : List Loc} {cells slots : Nat} {Q : State → Prop}
variable {cc : ByteArray} {pc nL : Nat} {ls : Array Slot} {rest : List Value} {own : String} {g : Gw} {σ : Mem} {H0 : Heap}
theorem q_nmi {x y : Int32} (h : x = y) (k : W p l e R s m args below meth c H locs cells slots Q (F0 m pc ls (.int x :: rest))) : W p l e R s m args below meth c H locs cells slots Q (F0 m pc ls (.int y :: rest)) := h ▸ k
theorem q_nml {x y : Int64} (h : x = y) (k : W p l e R s m args below meth c H locs cells slots Q (F0 m pc ls (.long x :: rest))) : W p l e R s m args below meth c H locs cells slots Q (F0 m pc ls (.long y :: rest)) := h ▸ k
theorem q_iald (cx : Cx p s m args meth c cc nL own g) (hP : Wd g σ H) {a n : Nat} (ha : a < 129) (he : ∀ fI fL, entV g a fI fL = aI g n fI) {i : Int32} (hin : inb i n = true) (hd : decode cc pc = .ok (.iaload, 1))
    (kk : W p l e R s m args below meth c H locs cells slots Q (F0 m (pc + 1) ls (.int (σ.1 a i.toNatClampNeg) :: rest))) : W p l e R s m args below meth c H locs cells slots Q (F0 m pc ls (.int i :: .ref (ad g a) :: rest)) :=
  va_iald (f := σ.1 a) cx.1 cx.2.1 cx.2.2.2.2.2.2.1 hP a 0 ((ws_at g σ ha).trans (by unfold ent; rw [he]; rfl)) rfl (inb_in hin) hd kk
theorem q_lald (cx : Cx p s m args meth c cc nL own g) (hP : Wd g σ H) {a n : Nat} (ha : a < 129) (he : ∀ fI fL, entV g a fI fL = aL g n fL) {i : Int32} (hin : inb i n = true) (hd : decode cc pc = .ok (.laload, 1))
    (kk : W p l e R s m args below meth c H locs cells slots Q (F0 m (pc + 1) ls (.long (σ.2 a i.toNatClampNeg) :: rest))) : W p l e R s m args below meth c H locs cells slots Q (F0 m pc ls (.int i :: .ref (ad g a) :: rest)) :=
  va_lald (f := σ.2 a) cx.1 cx.2.1 cx.2.2.2.2.2.2.1 hP a 1 ((ws_at g σ ha).trans (by unfold ent; rw [he]; rfl)) rfl (inb_in hin) hd kk
theorem q_iast (cx : Cx p s m args meth c cc nL own g) (hP : Wd g σ H) (hS : va_S (wA g) H0 H locs) {a n : Nat} (ha : a < 129) (he : ∀ fI fL, entV g a fI fL = aI g n fI) {i x : Int32} {σ' : Mem} (hin : inb i n = true) (hd : decode cc pc = .ok (.iastore, 1)) (hs : σ' = sI σ a i.toNatClampNeg x)
    (kk : ∀ (H1 : Heap) (locs1 : List Loc), Wd g σ' H1 → va_S (wA g) H0 H1 locs1 → W p l e R s m args below meth c H1 locs1 cells slots Q (F0 m (pc + 1) ls rest)) : W p l e R s m args below meth c H locs cells slots Q (F0 m pc ls (.int x :: .int i :: .ref (ad g a) :: rest)) := by
  subst hs
  refine va_iast (f := σ.1 a) cx.1 cx.2.1 cx.2.2.2.2.2.2.1 hP (ws_D cx.2.2.2.2.2.2.2 σ) hS a 0 ((ws_at g σ ha).trans (by unfold ent; rw [he]; rfl)) rfl (inb_in hin) hd (fun H1 locs1 hP1 _ hS1 => kk H1 locs1 ?_ hS1)
  unfold Wd sI
  rw [← ws_setI (e := aI g n (upd (σ.1 a) i.toNatClampNeg x)) ha (he _ _)]
  exact hP1
theorem q_last (cx : Cx p s m args meth c cc nL own g) (hP : Wd g σ H) (hS : va_S (wA g) H0 H locs) {a n : Nat} (ha : a < 129) (he : ∀ fI fL, entV g a fI fL = aL g n fL) {i : Int32} {x : Int64} {σ' : Mem} (hin : inb i n = true) (hd : decode cc pc = .ok (.lastore, 1)) (hs : σ' = sL σ a i.toNatClampNeg x)
    (kk : ∀ (H1 : Heap) (locs1 : List Loc), Wd g σ' H1 → va_S (wA g) H0 H1 locs1 → W p l e R s m args below meth c H1 locs1 cells slots Q (F0 m (pc + 1) ls rest)) : W p l e R s m args below meth c H locs cells slots Q (F0 m pc ls (.long x :: .int i :: .ref (ad g a) :: rest)) := by
  subst hs
  refine va_last (f := σ.2 a) cx.1 cx.2.1 cx.2.2.2.2.2.2.1 hP (ws_D cx.2.2.2.2.2.2.2 σ) hS a 1 ((ws_at g σ ha).trans (by unfold ent; rw [he]; rfl)) rfl (inb_in hin) hd (fun H1 locs1 hP1 _ hS1 => kk H1 locs1 ?_ hS1)
  unfold Wd sL
  rw [← ws_setL (e := aL g n (vp_updL (σ.2 a) i.toNatClampNeg x)) ha (he _ _)]
  exact hP1
/-- arraylength -/
theorem q_alenI (cx : Cx p s m args meth c cc nL own g) (hP : Wd g σ H) {a n : Nat} (ha : a < 129) (he : ∀ fI fL, entV g a fI fL = aI g n fI) {v : Int32} (hv : Int32.ofNat n = v) (hd : decode cc pc = .ok (.arraylength, 1))
    (kk : W p l e R s m args below meth c H locs cells slots Q (F0 m (pc + 1) ls (.int v :: rest))) : W p l e R s m args below meth c H locs cells slots Q (F0 m pc ls (.ref (ad g a) :: rest)) :=
  va_alen (x := (n, .inl (σ.1 a))) cx.1 cx.2.1 cx.2.2.2.2.2.2.1 hP a 0 ((ws_at g σ ha).trans (by unfold ent; rw [he]; rfl)) rfl hv hd kk
theorem q_alenL (cx : Cx p s m args meth c cc nL own g) (hP : Wd g σ H) {a n : Nat} (ha : a < 129) (he : ∀ fI fL, entV g a fI fL = aL g n fL) {v : Int32} (hv : Int32.ofNat n = v) (hd : decode cc pc = .ok (.arraylength, 1))
    (kk : W p l e R s m args below meth c H locs cells slots Q (F0 m (pc + 1) ls (.int v :: rest))) : W p l e R s m args below meth c H locs cells slots Q (F0 m pc ls (.ref (ad g a) :: rest)) :=
  va_alen (x := (n, .inr (.inl (σ.2 a)))) cx.1 cx.2.1 cx.2.2.2.2.2.2.1 hP a 1 ((ws_at g σ ha).trans (by unfold ent; rw [he]; rfl)) rfl hv hd kk
/-- the ring: an array of references -/
theorem q_aald (cx : Cx p s m args meth c cc nL own g) (hP : Wd g σ H) {a n b : Nat} {f : Nat → Option Nat} (ha : a < 129) (he : ∀ fI fL, entV g a fI fL = aR g n f) {i : Int32} (hin : inb i n = true) (hf : f i.toNatClampNeg = some b) (hd : decode cc pc = .ok (.aaload, 1))
    (kk : W p l e R s m args below meth c H locs cells slots Q (F0 m (pc + 1) ls (.ref b :: rest))) : W p l e R s m args below meth c H locs cells slots Q (F0 m pc ls (.int i :: .ref (ad g a) :: rest)) :=
  va_aldq (f := f) (C := R_Prog) cx.1 cx.2.1 cx.2.2.2.2.2.2.1 hP a 2 ((ws_at g σ ha).trans (by unfold ent; rw [he]; rfl)) rfl (inb_in hin) hd (by rw [hf]; exact kk)
/-- a field is read; is written -/
theorem q_get (cx : Cx p s m args meth c cc nL own g) (hP : Wd g σ H) {C : String} {T : u_T} {N ci index a k : Nat} {fs : List Value} {v : Value} (hin : ∀ w ∈ u_ws C T N, w ∈ qw) (hc : vwCl[ci]? = some (C, T, N)) (ha : a < 129) (he : entV g a (σ.1 a) (σ.2 a) = .inr (ci, fs)) (hk : k < N)
    (hl : Cond.fieldLink own index C (T k).2.1 (T k).2.2.1 ∈ qw) (hT : (T k).1 = C) (hv : fs[k]? = some v) (hd : decode cc pc = .ok (.getfield index, 3))
    (kk : W p l e R s m args below meth c H locs cells slots Q (F0 m (pc + 3) ls (v :: rest))) : W p l e R s m args below meth c H locs cells slots Q (F0 m pc ls (.ref (ad g a) :: rest)) :=
  va_get cx.1 cx.2.1 cx.2.2.2.2.1 hin cx.2.2.2.1 cx.2.2.2.2.2.2.1 hP a ((ws_at g σ ha).trans (by unfold ent; rw [he])) hc k hk (cx.2.2.2.2.1 _ hl) (fun x h => by rw [hT] at h; exact h) hv hd kk
theorem q_put (cx : Cx p s m args meth c cc nL own g) (hP : Wd g σ H) (hS : va_S (wA g) H0 H locs) {C : String} {T : u_T} {N ci index a k : Nat} {fs : List Value} {v : Int32} {ty : FieldType} {σ' : Mem} (hin : ∀ w ∈ u_ws C T N, w ∈ qw) (ty0 : Nat → FieldType) (hty : ∀ k, k < N → parseFieldDescriptor (T k).2.2.1 = some (ty0 k)) (hnm : ∀ a, a < N → ∀ b, b < N → a ≠ b → (T a).2.1 ≠ (T b).2.1) (hc : vwCl[ci]? = some (C, T, N)) (ha : a < 129) (he : entV g a (σ.1 a) (σ.2 a) = .inr (ci, fs)) (hk : k < N)
    (hl : Cond.fieldLink own index C (T k).2.1 (T k).2.2.1 ∈ qw) (hT : (T k).1 = C) (hfin : (T k).2.2.2 = false) (hdsc : parseFieldDescriptor (T k).2.2.1 = some ty) (hn : narrow ty (.int v) = .int v) (hfit : fits ty (.int v) = true) (hlen : k < fs.length) (he2 : entV g a (upd (σ.1 a) k v) (σ.2 a) = .inr (ci, fs.set k (.int v))) (hd : decode cc pc = .ok (.putfield index, 3)) (hs : σ' = sI σ a k v)
    (kk : ∀ (H1 : Heap) (locs1 : List Loc), Wd g σ' H1 → va_S (wA g) H0 H1 locs1 → W p l e R s m args below meth c H1 locs1 cells slots Q (F0 m (pc + 3) ls rest)) : W p l e R s m args below meth c H locs cells slots Q (F0 m pc ls (.int v :: .ref (ad g a) :: rest)) := by
  subst hs
  refine va_put cx.1 cx.2.1 cx.2.2.2.2.1 hin ty0 hty hnm cx.2.2.2.1 cx.2.2.2.2.2.2.1 hP (ws_D cx.2.2.2.2.2.2.2 σ) hS a ((ws_at g σ ha).trans (by unfold ent; rw [he])) hc k hk (cx.2.2.2.2.1 _ hl) (fun x h => by rw [hT] at h; exact h) hfin hdsc hn hfit hlen hd (fun H1 locs1 hP1 _ hS1 => kk H1 locs1 ?_ hS1)
  unfold Wd sI
  rw [← ws_setI ha he2]
  exact hP1
/-- answers -/
theorem q_ri (cx : Cx p s m args meth c cc nL own g) {ty : FieldType} (hr : meth.sig.returnType = some ty) {r r0 : Int32} {σ0 : Mem} (hn : narrow ty (.int r) = .int r) (hP : Wd g σ H) (hS : va_S (wA g) s.heap H locs) (hQ : MQ below (kQi g r0 σ0) args s 0 0 (wA g) = Q) (h : some (r, σ) = some (r0, σ0)) (hd : decode cc pc = .ok (.ireturn, 1)) :
    W p l e R s m args below meth c H locs 0 0 Q (F0 m pc ls [.int r]) := by
  subst hQ
  cases h
  exact W.zret cx.1 cx.2.1 hr hn (fun t ht hW => ⟨⟨r, σ, rfl, ⟨rfl, rfl⟩, by show Wd g σ t.heap; rw [ht]; exact hP⟩, hS.F ht⟩) hS.2.2 hd cx.2.2.2.2.2.1
theorem q_rl (cx : Cx p s m args meth c cc nL own g) (hr : meth.sig.returnType = some .long) {r r0 : Int64} {σ0 : Mem} (hP : Wd g σ H) (hS : va_S (wA g) s.heap H locs) (hQ : MQ below (kQl g r0 σ0) args s 0 0 (wA g) = Q) (h : some (r, σ) = some (r0, σ0)) (hd : decode cc pc = .ok (.lreturn, 1)) :
    W p l e R s m args below meth c H locs 0 0 Q (F0 m pc ls [.long r]) := by
  subst hQ
  cases h
  exact W.lret cx.1 cx.2.1 hr (fun t ht hW => ⟨⟨r, σ, rfl, ⟨rfl, rfl⟩, by show Wd g σ t.heap; rw [ht]; exact hP⟩, hS.F ht⟩) hS.2.2 hd cx.2.2.2.2.2.1
theorem q_rv (cx : Cx p s m args meth c cc nL own g) (hr : meth.sig.returnType = none) {σ0 : Mem} (hP : Wd g σ H) (hS : va_S (wA g) s.heap H locs) (hQ : MQ below (kQv g σ0) args s 0 0 (wA g) = Q) (h : some ((), σ) = some ((), σ0)) (hd : decode cc pc = .ok (.return_, 1)) :
    W p l e R s m args below meth c H locs 0 0 Q (F0 m pc ls []) := by
  subst hQ
  cases h
  exact W.vret cx.1 cx.2.1 hr (fun t ht hW => ⟨⟨σ, rfl, rfl, by show Wd g σ t.heap; rw [ht]; exact hP⟩, hS.F ht⟩) hS.2.2 hd cx.2.2.2.2.2.1
theorem q_rr (cx : Cx p s m args meth c cc nL own g) {C : String} (hr : meth.sig.returnType = some (.object C)) {a a0 : Nat} {σ0 : Mem} (hP : Wd g σ H) (hS : va_S (wA g) s.heap H locs) (hQ : MQ below (kQr g a0 σ0) args s 0 0 (wA g) = Q) (h : some (a, σ) = some (a0, σ0)) (hd : decode cc pc = .ok (.areturn, 1)) :
    W p l e R s m args below meth c H locs 0 0 Q (F0 m pc ls [.ref (ad g a)]) := by
  subst hQ
  cases h
  exact W.aret cx.1 cx.2.1 hr (Or.inl ⟨_, rfl⟩) (Or.inr ⟨_, rfl⟩) (fun t ht hW => ⟨⟨σ, _, rfl, rfl, rfl, by show Wd g σ t.heap; rw [ht]; exact hP⟩, hS.F ht⟩) hS.2.2 hd cx.2.2.2.2.2.1
/-- a method's beginning -/
theorem q_cx {y : MethodName} {rm : Room} {ret : Option FieldType} {s₁ : State} (hg : wInj g) (B : BodyLoose p l y (headSpec (Cond.code y cc nL ret :: qw) rm) cc nL ret e s m args below meth c s₁) (hml : c.maxLocals = nL) (hK : va_K g.2.1 vwCl (gT g) s) (hown : s.vm.findClass own = some m.cls) : Cx p s m args meth c cc nL own g :=
  ⟨B.exec, B.bytes, hml, hown, fun w hw => atoms_spec (ws := Cond.code y cc nL ret :: qw) B.pre w (List.mem_cons_of_mem _ hw), B.notSynchronized, hK, hg⟩
end MW
theorem loopF_zero {α β : Type} {body : α → Option (α ⊕ β)} {a : α} {Z : β} (h : loopF body 0 a = some Z) : False := by cases h
def FU : Nat := 5000
def isB (x : Int32) : Bool := decide (x = 0) || decide (x = 1)
theorem isB_or {x : Int32} (h : isB x = true) : x = 0 ∨ x = 1 := by
  unfold isB at h
  simpa using h
theorem isB_n {x : Int32} (h : isB x = true) : narrow .boolean (.int x) = .int x := by
  rcases isB_or h with rfl | rfl <;> rfl
theorem q_inc {x y k : Int32} {n : Int} (e : y = x + k) (hk : Int32.ofInt n = k) : x + Int32.ofInt n = y := by rw [hk, e]
/-- a method that is called: its words -/
def Yw (y : MethodName) (cc : ByteArray) (nL : Nat) (ret : Option FieldType) (n : Nat) : Prop := Cond.code y cc nL ret ∈ qw ∧ Cond.initialized y.cls ∈ qw ∧ (y.cls ≠ "java/lang/invoke/MethodHandle" ∧ y.cls ≠ "java/lang/invoke/VarHandle" ∧ (parseMethodDescriptor y.desc).map (fun d => d.parameters.length) = some n) ∧ nL ≤ 45
def YV (y : MethodName) : Prop := Cond.instanceMethod y ∈ qw ∧ Cond.selects y.cls y y ∈ qw
theorem qw_sub {y : MethodName} {cc : ByteArray} {nL : Nat} {ret : Option FieldType} (hy : Cond.code y cc nL ret ∈ qw) : GoodIn qw (Cond.code y cc nL ret :: qw) := by
  intro w hw
  rcases List.mem_cons.mp hw with rfl | h
  · exact ⟨hy, qw_good _ hy⟩
  · exact ⟨h, qw_good _ h⟩
theorem k_blind {g : Gw} {av : List Value} {σ : Mem} : FrameBlind (kPc g av σ) := fun a U gf mk q => by
  obtain ⟨q0, qP, qK⟩ := q
  exact ⟨q0, qP, va_K.moved (u := U) (U := U.calling gf mk a) (Vm.Alike.refl U.vm) qK⟩
section MC
variable {p : Program} {l : Launch} {e : Env} {R : Room} {s : State} {m : MethodId} {args : Array Value} {below : List Frame} {meth : Method} {c : Code} {H : Heap} {locs : List Loc} {cells slots : Nat} {Q : State → Prop}
variable {cc : ByteArray} {pc nL : Nat} {ls : Array Slot} {rest st : List Value} {own : String} {g : Gw} {σ σ' : Mem} {H0 : Heap}
variable {y : MethodName} {bytes : ByteArray} {maxL n index d d' a ci N : Nat} {ret : Option FieldType} {As : List Value} {fs : List Value} {T : u_T}
theorem q_callB (cx : Cx p s m args meth c cc nL own g) (hR : Rk R d cells slots) (Y : Yw y bytes maxL ret n) (hl : Cond.methodLink own index y ∈ qw) (hdd : d' < d) : CallB R s args own index y bytes maxL ret (Cond.code y bytes maxL ret :: qw) (rmD d') 0 0 n := by
  refine callB_of n cx.2.2.2.2.1 (qw_sub Y.1) rfl rfl rfl (cx.2.2.2.2.1 _ Y.2.1) (cx.2.2.2.2.1 _ hl) Y.2.2.1 ⟨?_, ?_⟩
  · show d' + 1 ≤ R.frames
    have := hR.1
    omega
  · show 8 + (maxL + 11) + 64 * d' ≤ R.locals
    have := hR.2.1
    have := Y.2.2.2
    omega
theorem q_preV (cx : Cx p s m args meth c cc nL own g) (hP : Wd g σ H) {C : String} (ha : a < 129) (he : entV g a (σ.1 a) (σ.2 a) = .inr (ci, fs)) (hc : vwCl[ci]? = some (C, T, N)) : PreV s H C (ad g a) (kPc g (.ref (ad g a) :: As) σ) As :=
  ⟨k_blind, va_recv cx.2.2.2.2.2.2.1 hP hc ((ws_at g σ ha).trans (by unfold ent; rw [he])), fun U hU hW => ⟨rfl, by rw [hU]; exact hP, va_K.moved hW.alike cx.2.2.2.2.2.2.1⟩⟩
theorem q_preS (cx : Cx p s m args meth c cc nL own g) (hP : Wd g σ H) : PreS s H (kPc g As σ) As :=
  ⟨k_blind, fun U hU hW => ⟨rfl, by rw [hU]; exact hP, va_K.moved hW.alike cx.2.2.2.2.2.2.1⟩⟩
theorem q_fix (cx : Cx p s m args meth c cc nL own g) : CallFix p m c cc nL s args qw own := ⟨cx.1, cx.2.1, cx.2.2.1, cx.2.2.2.1, cx.2.2.2.2.1⟩
theorem q_cVi (cx : Cx p s m args meth c cc nL own g) (hP : Wd g σ H) (hS : va_S (wA g) H0 H locs) (hR : Rk R d cells slots) {r : Int32} (hM : KI l y bytes maxL ret d' g (.ref (ad g a) :: As) σ r σ') (Y : Yw y bytes maxL ret n) (Y2 : YV y) (hl : Cond.methodLink own index y ∈ qw) (hdd : d' < d) (ha : a < 129) (he : entV g a (σ.1 a) (σ.2 a) = .inr (ci, fs)) (hc : vwCl[ci]? = some (y.cls, T, N)) (hn : As.length = n) (hz : ls.size = nL) (hst : st = As.reverse ++ .ref (ad g a) :: rest) (h8 : (rest.map fun v => v.category).sum ≤ 8) (hdg : decode cc pc = .ok (.invokevirtual index, 3))
    (kk : ∀ (H1 : Heap) (locs1 : List Loc), Wd g σ' H1 → va_S (wA g) H0 H1 locs1 → W p l e R s m args below meth c H1 locs1 cells slots Q (F0 m (pc + 3) ls (.int r :: rest))) : W p l e R s m args below meth c H locs cells slots Q (F0 m pc ls st) := by
  refine va_calli (va_runV (g := F0 m pc ls st) (b := ad g a) (As := As) (rest := rest) (q_fix cx) hM ⟨q_callB cx hR Y hl hdd, cx.2.2.2.2.1 _ Y2.1, cx.2.2.2.2.1 _ Y2.2⟩ (q_preV cx hP ha he hc) rfl hn hz hst (lv_room h8) hdg ⟨hR.2.2.1, hR.2.2.2⟩) hS (fun q _ h => h) (fun q h => h) (fun r1 u t H1 locs1 ht hvm hpost hB hz1 hk1 hS1 => ?_)
  obtain ⟨rfl, rfl⟩ := hpost
  exact kk H1 locs1 (by rw [← ht]; exact hB) hS1
theorem q_cVl (cx : Cx p s m args meth c cc nL own g) (hP : Wd g σ H) (hS : va_S (wA g) H0 H locs) (hR : Rk R d cells slots) {r : Int64} (hM : KL l y bytes maxL ret d' g (.ref (ad g a) :: As) σ r σ') (Y : Yw y bytes maxL ret n) (Y2 : YV y) (hl : Cond.methodLink own index y ∈ qw) (hdd : d' < d) (ha : a < 129) (he : entV g a (σ.1 a) (σ.2 a) = .inr (ci, fs)) (hc : vwCl[ci]? = some (y.cls, T, N)) (hn : As.length = n) (hz : ls.size = nL) (hst : st = As.reverse ++ .ref (ad g a) :: rest) (h8 : (rest.map fun v => v.category).sum ≤ 8) (hdg : decode cc pc = .ok (.invokevirtual index, 3))
    (kk : ∀ (H1 : Heap) (locs1 : List Loc), Wd g σ' H1 → va_S (wA g) H0 H1 locs1 → W p l e R s m args below meth c H1 locs1 cells slots Q (F0 m (pc + 3) ls (.long r :: rest))) : W p l e R s m args below meth c H locs cells slots Q (F0 m pc ls st) := by
  refine va_calll (va_runV (g := F0 m pc ls st) (b := ad g a) (As := As) (rest := rest) (q_fix cx) hM ⟨q_callB cx hR Y hl hdd, cx.2.2.2.2.1 _ Y2.1, cx.2.2.2.2.1 _ Y2.2⟩ (q_preV cx hP ha he hc) rfl hn hz hst (lv_room h8) hdg ⟨hR.2.2.1, hR.2.2.2⟩) hS (fun q _ h => h) (fun q h => h) (fun r1 u t H1 locs1 ht hvm hpost hB hz1 hk1 hS1 => ?_)
  obtain ⟨rfl, rfl⟩ := hpost
  exact kk H1 locs1 (by rw [← ht]; exact hB) hS1
theorem q_cVv (cx : Cx p s m args meth c cc nL own g) (hP : Wd g σ H) (hS : va_S (wA g) H0 H locs) (hR : Rk R d cells slots) (hM : KV l y bytes maxL ret d' g (.ref (ad g a) :: As) σ σ') (Y : Yw y bytes maxL ret n) (Y2 : YV y) (hl : Cond.methodLink own index y ∈ qw) (hdd : d' < d) (ha : a < 129) (he : entV g a (σ.1 a) (σ.2 a) = .inr (ci, fs)) (hc : vwCl[ci]? = some (y.cls, T, N)) (hn : As.length = n) (hz : ls.size = nL) (hst : st = As.reverse ++ .ref (ad g a) :: rest) (h8 : (rest.map fun v => v.category).sum ≤ 8) (hdg : decode cc pc = .ok (.invokevirtual index, 3))
    (kk : ∀ (H1 : Heap) (locs1 : List Loc), Wd g σ' H1 → va_S (wA g) H0 H1 locs1 → W p l e R s m args below meth c H1 locs1 cells slots Q (F0 m (pc + 3) ls rest)) : W p l e R s m args below meth c H locs cells slots Q (F0 m pc ls st) := by
  refine va_callv (va_runV (g := F0 m pc ls st) (b := ad g a) (As := As) (rest := rest) (q_fix cx) hM ⟨q_callB cx hR Y hl hdd, cx.2.2.2.2.1 _ Y2.1, cx.2.2.2.2.1 _ Y2.2⟩ (q_preV cx hP ha he hc) rfl hn hz hst (lv_room h8) hdg ⟨hR.2.2.1, hR.2.2.2⟩) hS (fun q _ h => h) (fun q h => h) (fun u t H1 locs1 ht hvm hpost hB hz1 hk1 hS1 => ?_)
  obtain rfl := hpost
  exact kk H1 locs1 (by rw [← ht]; exact hB) hS1
theorem q_cVr (cx : Cx p s m args meth c cc nL own g) (hP : Wd g σ H) (hS : va_S (wA g) H0 H locs) (hR : Rk R d cells slots) {b : Nat} (hM : KR l y bytes maxL ret d' g (.ref (ad g a) :: As) σ b σ') (Y : Yw y bytes maxL ret n) (Y2 : YV y) (hl : Cond.methodLink own index y ∈ qw) (hdd : d' < d) (ha : a < 129) (he : entV g a (σ.1 a) (σ.2 a) = .inr (ci, fs)) (hc : vwCl[ci]? = some (y.cls, T, N)) (hn : As.length = n) (hz : ls.size = nL) (hst : st = As.reverse ++ .ref (ad g a) :: rest) (h8 : (rest.map fun v => v.category).sum ≤ 8) (hdg : decode cc pc = .ok (.invokevirtual index, 3))
    (kk : ∀ (H1 : Heap) (locs1 : List Loc), Wd g σ' H1 → va_S (wA g) H0 H1 locs1 → W p l e R s m args below meth c H1 locs1 cells slots Q (F0 m (pc + 3) ls (.ref (ad g b) :: rest))) : W p l e R s m args below meth c H locs cells slots Q (F0 m pc ls st) := by
  refine va_callr (va_runV (g := F0 m pc ls st) (b := ad g a) (As := As) (rest := rest) (q_fix cx) hM ⟨q_callB cx hR Y hl hdd, cx.2.2.2.2.1 _ Y2.1, cx.2.2.2.2.1 _ Y2.2⟩ (q_preV cx hP ha he hc) rfl hn hz hst (lv_room h8) hdg ⟨hR.2.2.1, hR.2.2.2⟩) hS (fun q _ h => h) (fun q h => h) (fun u ra t H1 locs1 ht hvm hpost hB hz1 hk1 hS1 => ?_)
  obtain rfl := hpost
  obtain ⟨rfl, hB⟩ := hB
  exact kk H1 locs1 (by rw [← ht]; exact hB) hS1
theorem q_cSi (cx : Cx p s m args meth c cc nL own g) (hP : Wd g σ H) (hS : va_S (wA g) H0 H locs) (hR : Rk R d cells slots) {r : Int32} (hM : KI l y bytes maxL ret d' g As σ r σ') (Y : Yw y bytes maxL ret n) (Y2 : Cond.static y ∈ qw) (hl : Cond.methodLink own index y ∈ qw) (hdd : d' < d) (hn : As.length = n) (hz : ls.size = nL) (hst : st = As.reverse ++ rest) (h8 : (rest.map fun v => v.category).sum ≤ 8) (hdg : decode cc pc = .ok (.invokestatic index, 3))
    (kk : ∀ (H1 : Heap) (locs1 : List Loc), Wd g σ' H1 → va_S (wA g) H0 H1 locs1 → W p l e R s m args below meth c H1 locs1 cells slots Q (F0 m (pc + 3) ls (.int r :: rest))) : W p l e R s m args below meth c H locs cells slots Q (F0 m pc ls st) := by
  refine va_calli (va_runS (g := F0 m pc ls st) (As := As) (rest := rest) (q_fix cx) hM ⟨q_callB cx hR Y hl hdd, cx.2.2.2.2.1 _ Y2⟩ (q_preS cx hP) rfl hn hz hst (lv_room h8) hdg ⟨hR.2.2.1, hR.2.2.2⟩) hS (fun q _ h => h) (fun q h => h) (fun r1 u t H1 locs1 ht hvm hpost hB hz1 hk1 hS1 => ?_)
  obtain ⟨rfl, rfl⟩ := hpost
  exact kk H1 locs1 (by rw [← ht]; exact hB) hS1
theorem q_cSl (cx : Cx p s m args meth c cc nL own g) (hP : Wd g σ H) (hS : va_S (wA g) H0 H locs) (hR : Rk R d cells slots) {r : Int64} (hM : KL l y bytes maxL ret d' g As σ r σ') (Y : Yw y bytes maxL ret n) (Y2 : Cond.static y ∈ qw) (hl : Cond.methodLink own index y ∈ qw) (hdd : d' < d) (hn : As.length = n) (hz : ls.size = nL) (hst : st = As.reverse ++ rest) (h8 : (rest.map fun v => v.category).sum ≤ 8) (hdg : decode cc pc = .ok (.invokestatic index, 3))
    (kk : ∀ (H1 : Heap) (locs1 : List Loc), Wd g σ' H1 → va_S (wA g) H0 H1 locs1 → W p l e R s m args below meth c H1 locs1 cells slots Q (F0 m (pc + 3) ls (.long r :: rest))) : W p l e R s m args below meth c H locs cells slots Q (F0 m pc ls st) := by
  refine va_calll (va_runS (g := F0 m pc ls st) (As := As) (rest := rest) (q_fix cx) hM ⟨q_callB cx hR Y hl hdd, cx.2.2.2.2.1 _ Y2⟩ (q_preS cx hP) rfl hn hz hst (lv_room h8) hdg ⟨hR.2.2.1, hR.2.2.2⟩) hS (fun q _ h => h) (fun q h => h) (fun r1 u t H1 locs1 ht hvm hpost hB hz1 hk1 hS1 => ?_)
  obtain ⟨rfl, rfl⟩ := hpost
  exact kk H1 locs1 (by rw [← ht]; exact hB) hS1
theorem q_cSv (cx : Cx p s m args meth c cc nL own g) (hP : Wd g σ H) (hS : va_S (wA g) H0 H locs) (hR : Rk R d cells slots) (hM : KV l y bytes maxL ret d' g As σ σ') (Y : Yw y bytes maxL ret n) (Y2 : Cond.static y ∈ qw) (hl : Cond.methodLink own index y ∈ qw) (hdd : d' < d) (hn : As.length = n) (hz : ls.size = nL) (hst : st = As.reverse ++ rest) (h8 : (rest.map fun v => v.category).sum ≤ 8) (hdg : decode cc pc = .ok (.invokestatic index, 3))
    (kk : ∀ (H1 : Heap) (locs1 : List Loc), Wd g σ' H1 → va_S (wA g) H0 H1 locs1 → W p l e R s m args below meth c H1 locs1 cells slots Q (F0 m (pc + 3) ls rest)) : W p l e R s m args below meth c H locs cells slots Q (F0 m pc ls st) := by
  refine va_callv (va_runS (g := F0 m pc ls st) (As := As) (rest := rest) (q_fix cx) hM ⟨q_callB cx hR Y hl hdd, cx.2.2.2.2.1 _ Y2⟩ (q_preS cx hP) rfl hn hz hst (lv_room h8) hdg ⟨hR.2.2.1, hR.2.2.2⟩) hS (fun q _ h => h) (fun q h => h) (fun u t H1 locs1 ht hvm hpost hB hz1 hk1 hS1 => ?_)
  obtain rfl := hpost
  exact kk H1 locs1 (by rw [← ht]; exact hB) hS1
/-- a contract out of its body -/
theorem q_met {Qc : Array Value → State → Outcome → State → Prop} (g : Gw) (hg : wInj g) (hy : plainName y.cls = true) (hcls : y.cls = own) (hle : (lg_sl As).length ≤ nL)
    (body : ∀ (p : Program) (e : Env) (s : State) (m : MethodId) (args : Array Value) (below : List Frame) (meth : Method) (c : Code) (R : Room) (Q : State → Prop), Cx p s m args meth c cc nL own g → Rk R d 0 0 → meth.sig.returnType = ret → MQ below Qc args s 0 0 (wA g) = Q → ∀ (H : Heap) (locs : List Loc) (ls : Array Slot), Wd g σ H → va_S (wA g) s.heap H locs → lv_has ls nL (lv_args 0 As) → W p l e R s m args below meth c H locs 0 0 Q (F0 m 0 ls [])) :
    Met l y (Cond.code y cc nL ret :: qw) (rmD d) (kPc g As σ) Qc 0 0 (wA g) := by
  refine Met.ofW (cc := cc) (maxL := nL) (ret := ret) hy rfl ?_
  intro p e s m args below meth c s₁ B hml hv
  obtain ⟨rfl, hP, hK⟩ := hv
  have hown : s.vm.findClass own = some m.cls := by rw [← hcls]; exact findClass_of_methodNamed B.named
  rw [lg_entry_eq]
  exact body p e s m _ below meth c _ _ (q_cx hg B hml hK hown) ⟨Nat.le_refl _, Nat.le_refl _, Nat.zero_le _, Nat.zero_le _⟩ B.returns rfl s.heap [] _ hP va_S.rf (lv_entry As hle)
end MC
theorem q_rP {i r : Nat} {σ σ0 : Mem} (h : some (i, σ) = some (r, σ0)) : some (cP i, σ) = some (cP r, σ0) := by cases h; rfl
theorem q_r1 {a r : Nat} {σ σ0 : Mem} (h : some (a, σ) = some (r, σ0)) : some (a, σ) = some (a, σ0) := by cases h; rfl
