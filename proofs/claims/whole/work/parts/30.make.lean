/-! CONSTRUCTORS: worlds as lists of cells, in the kit's own way; the array classes are g's -/
abbrev rmC (d mc ms : Nat) : Room := { frames := d, cells := mc, slots := ms, locals := 64 * d }
def mZ (U : State) : Prop := va_AO "TermBench$Program" U ∧ va_Nw (.methodLinkNest "TermBench$History" 30 yPr_init "TermBench") U ∧ va_Nw (.methodLinkNest "TermBench" 18 yTg_init "TermBench") U ∧ va_Nw (.methodLinkNest "TermBench" 25 yPa_init "TermBench") U ∧ va_Nw (.methodLinkNest "TermBench" 32 yMa_init "TermBench") U
theorem mZ_warm {s U : State} (hW : s.WarmedH U.vm) (h : mZ s) : mZ U := ⟨va_AO.moved hW.alike h.1, va_Nw.warmM hW h.2.1, va_Nw.warmM hW h.2.2.1, va_Nw.warmM hW h.2.2.2.1, va_Nw.warmM hW h.2.2.2.2⟩
theorem mZ_calling {U : State} {gf : JFrame} {mk : MethodId} {a : Array Value} (h : mZ U) : mZ (U.calling gf mk a) := ⟨va_AO.moved (Vm.Alike.refl U.vm) h.1, va_Nw.same rfl rfl h.2.1, va_Nw.same rfl rfl h.2.2.1, va_Nw.same rfl rfl h.2.2.2.1, va_Nw.same rfl rfl h.2.2.2.2⟩
abbrev mPc (g : Gw) (b : Nat) (e0 : va_E) (sz : Nat) : Array Value → State → Prop := va_Pc [.ref b] (fun U => U.heap.size = sz ∧ va_P g.2.1 vwCl [(b, e0)] U.heap ∧ va_K g.2.1 vwCl (gT g) U ∧ va_D (fun _ => True) [(b, e0)] ∧ mZ U)
abbrev mQc {S : Type} (g : Gw) (b : Nat) (e0 : va_E) (sz : Nat) (fin : S → va_W) : Array Value → State → Outcome → State → Prop := va_Qv (fun (_ : S) => True) (fun u t => va_P g.2.1 vwCl (fin u) t.heap ∧ va_D (va_A [(b, e0)] sz) (fin u)) (va_A [(b, e0)] sz)
/-- a constructor's contract: from the one new cell to its list of cells, made out of addresses that come -/
abbrev KM {S : Type} (l : Launch) (y : MethodName) (cc : ByteArray) (nL : Nat) (d mc ms : Nat) (g : Gw) (b : Nat) (e0 : va_E) (sz : Nat) (fin : S → va_W) : Prop := Met l y (Cond.code y cc nL none :: qw) (rmC d mc ms) (mPc g b e0 sz) (mQc g b e0 sz fin) mc ms (va_A [(b, e0)] sz)
theorem m_blind {g : Gw} {b sz : Nat} {e0 : va_E} : FrameBlind (mPc g b e0 sz) := fun a U gf mk q => by
  obtain ⟨q0, q1, qP, qK, qD, qZ⟩ := q
  exact ⟨q0, q1, qP, va_K.moved (u := U) (U := U.calling gf mk a) (Vm.Alike.refl U.vm) qK, qD, mZ_calling qZ⟩
theorem m_cls {s : State} {ty : FieldType} {c1 c2 : ClassId} (h1 : s.vm.findClass ("[" ++ ty.toString) = some c1) (h2 : s.vm.findClass ("[" ++ ty.toString) = some c2) : c1 = c2 := Option.some.inj (h1.symm.trans h2)
theorem va_P_nil {D : va_G} {cl : List vw_C} {H : Heap} : va_P D cl [] H := fun k q h => by simp at h
theorem m_front {D : va_G} {cl : List vw_C} {A : Nat → Prop} {ws : va_W} {x : Nat × va_E} {H : Heap} (hP : va_P D cl (ws ++ [x]) H) (hD : va_D A (ws ++ [x])) : va_P D cl ([x] ++ ws) H ∧ va_D A ([x] ++ ws) := ⟨va_P.swap (a := []) hP, va_D.swap (a := []) hD⟩
section MM
variable {p : Program} {l : Launch} {e : Env} {R : Room} {s : State} {m : MethodId} {args : Array Value} {below : List Frame} {meth : Method} {c : Code} {H : Heap} {locs : List Loc} {cells slots : Nat} {Q : State → Prop}
variable {cc : ByteArray} {pc nL index d : Nat} {ls : Array Slot} {rest st : List Value} {own : String} {g : Gw} {H0 : Heap} {A : Nat → Prop} {ws : va_W}
theorem m_newI (cx : Cx p s m args meth c cc nL own g) (hP : va_P g.2.1 vwCl ws H) (hD : va_D A ws) (hS : va_S A H0 H locs) (hA : ∀ q, H0.size ≤ q → A q) {n : Int32} {N : Nat} (hn : ¬ n < 0) (hN : n.toNatClampNeg = N) (hb2 : N * 4 ≤ 536870912) (hc : cells + 1 ≤ R.cells) (hs : slots + N ≤ R.slots) (hd : decode cc pc = .ok (.newarray .int, 2))
    (kk : ∀ (q : Nat) (H1 : Heap), va_P g.2.1 vwCl (ws ++ [(q, aI g N (fun _ => 0))]) H1 → va_D A (ws ++ [(q, aI g N (fun _ => 0))]) → va_S A H0 H1 locs → W p l e R s m args below meth c H1 locs (cells + 1) (slots + N) Q (F0 m (pc + 2) ls (.ref q :: rest))) : W p l e R s m args below meth c H locs cells slots Q (F0 m pc ls (.int n :: rest)) := by
  refine va_newa (a0 := (N, .inl (fun _ => 0))) (ty := .int) cx.1 cx.2.1 (cx.2.2.2.2.1 _ (qm (i := 64) (by decide +kernel) (by decide +kernel))) rfl cx.2.2.2.2.2.2.1 hP hD hS hA (fun cA => rfl) hn hN hb2 hc hs hd (fun q cA H1 hK1 hP1 hD1 hS1 => ?_)
  have hcA : cA = g.2.2.1 := m_cls (ty := .int) (hK1.2 3 _ rfl).2 (hK1.2 0 _ rfl).2
  subst hcA
  exact kk q H1 hP1 hD1 hS1
theorem m_newL (cx : Cx p s m args meth c cc nL own g) (hP : va_P g.2.1 vwCl ws H) (hD : va_D A ws) (hS : va_S A H0 H locs) (hA : ∀ q, H0.size ≤ q → A q) {n : Int32} {N : Nat} (hn : ¬ n < 0) (hN : n.toNatClampNeg = N) (hb2 : N * 8 ≤ 536870912) (hc : cells + 1 ≤ R.cells) (hs : slots + N ≤ R.slots) (hd : decode cc pc = .ok (.newarray .long, 2))
    (kk : ∀ (q : Nat) (H1 : Heap), va_P g.2.1 vwCl (ws ++ [(q, aL g N (fun _ => 0))]) H1 → va_D A (ws ++ [(q, aL g N (fun _ => 0))]) → va_S A H0 H1 locs → W p l e R s m args below meth c H1 locs (cells + 1) (slots + N) Q (F0 m (pc + 2) ls (.ref q :: rest))) : W p l e R s m args below meth c H locs cells slots Q (F0 m pc ls (.int n :: rest)) := by
  refine va_newa (a0 := (N, .inr (.inl (fun _ => 0)))) (ty := .long) cx.1 cx.2.1 (cx.2.2.2.2.1 _ (qm (i := 65) (by decide +kernel) (by decide +kernel))) rfl cx.2.2.2.2.2.2.1 hP hD hS hA (fun cA => rfl) hn hN hb2 hc hs hd (fun q cA H1 hK1 hP1 hD1 hS1 => ?_)
  have hcA : cA = g.2.2.2.1 := m_cls (ty := .long) (hK1.2 3 _ rfl).2 (hK1.2 1 _ rfl).2
  subst hcA
  exact kk q H1 hP1 hD1 hS1
theorem m_newR (cx : Cx p s m args meth c cc nL own g) (hZ : mZ s) (hl : Cond.classLink own index "TermBench$Program" ∈ qw) (hP : va_P g.2.1 vwCl ws H) (hD : va_D A ws) (hS : va_S A H0 H locs) (hA : ∀ q, H0.size ≤ q → A q) {n : Int32} {N : Nat} (hn : ¬ n < 0) (hN : n.toNatClampNeg = N) (hb2 : N * 4 ≤ 536870912) (hc : cells + 1 ≤ R.cells) (hs : slots + N ≤ R.slots) (hd : decode cc pc = .ok (.anewarray index, 3))
    (kk : ∀ (q : Nat) (H1 : Heap), va_P g.2.1 vwCl (ws ++ [(q, aR g N (fun _ => none))]) H1 → va_D A (ws ++ [(q, aR g N (fun _ => none))]) → va_S A H0 H1 locs → W p l e R s m args below meth c H1 locs (cells + 1) (slots + N) Q (F0 m (pc + 3) ls (.ref q :: rest))) : W p l e R s m args below meth c H locs cells slots Q (F0 m pc ls (.int n :: rest)) := by
  refine va_newq cx.1 cx.2.1 cx.2.2.2.1 (cx.2.2.2.2.1 _ hl) hZ.1 cx.2.2.2.2.2.2.1 hP hD hS hA hn hN hb2 hc hs hd (fun q cA H1 hK1 hP1 hD1 hS1 => ?_)
  have hcA : cA = g.2.2.2.2 := by
    obtain ⟨_, _, _, _, _, h1⟩ := (hK1.2 3 _ rfl).2
    obtain ⟨_, _, _, _, _, h2⟩ := (hK1.2 2 _ rfl).2
    exact m_cls h1 h2
  subst hcA
  exact kk q H1 hP1 hD1 hS1
theorem m_obj (cx : Cx p s m args meth c cc nL own g) (hl : Cond.methodLink own index Lib.objectInit ∈ qw) (hf : 1 ≤ R.frames ∧ 64 ≤ R.locals) {a : Nat} (hz : ls.size = nL) (h8 : (rest.map fun v => v.category).sum ≤ 8) (hd : decode cc pc = .ok (.invokespecial index, 3))
    (kk : W p l e R s m args below meth c H locs cells slots Q (F0 m (pc + 3) ls rest)) : W p l e R s m args below meth c H locs cells slots Q (F0 m pc ls (.ref a :: rest)) :=
  W.objInit (a := a) (rest := rest) cx.1 cx.2.1 cx.2.2.2.1 (cx.2.2.2.2.1 _ hl) (cx.2.2.2.2.1 _ (qm (i := 18) (by decide +kernel) (by decide +kernel))) (cx.2.2.2.2.1 _ (qm (i := 19) (by decide +kernel) (by decide +kernel))) rfl (hz.trans cx.2.2.1.symm) rfl hd hf.1 (Nat.le_trans (Nat.add_le_add_right (lv_room (m := m) (pc := pc) (ls := ls) h8) 12) (Nat.le_trans (by decide) hf.2)) kk
theorem m_rv {S : Type} {b sz mc ms : Nat} {e0 : va_E} {fin : S → va_W} (cx : Cx p s m args meth c cc nL own g) (hr : meth.sig.returnType = none) (u : S) (hP : va_P g.2.1 vwCl (fin u) H) (hD : va_D (va_A [(b, e0)] sz) (fin u)) (hS : va_S (va_A [(b, e0)] sz) s.heap H locs) (hQ : MQ below (mQc g b e0 sz fin) args s mc ms (va_A [(b, e0)] sz) = Q) (hc : cells ≤ mc) (hs : slots ≤ ms) (hd : decode cc pc = .ok (.return_, 1)) :
    W p l e R s m args below meth c H locs cells slots Q (F0 m pc ls []) := by
  subst hQ
  refine W.widen (k := mc) (n := ms) hc hs ?_
  exact W.vret cx.1 cx.2.1 hr (fun t ht hW => ⟨⟨u, rfl, trivial, by rw [ht]; exact hP, hD⟩, hS.F ht⟩) hS.2.2 hd cx.2.2.2.2.2.1
theorem m_met {S : Type} {y : MethodName} {b sz mc ms : Nat} {e0 : va_E} {fin : S → va_W} (g : Gw) (hg : wInj g) (hy : plainName y.cls = true) (hcls : y.cls = own) (hnm : y.name = "<init>") (hle : 1 ≤ nL)
    (body : ∀ (p : Program) (e : Env) (s : State) (m : MethodId) (args : Array Value) (below : List Frame) (meth : Method) (c : Code) (Q : State → Prop), Cx p s m args meth c cc nL own g → mZ s → meth.sig.returnType = none → meth.name = "<init>" → (∀ q, s.heap.size ≤ q → va_A [(b, e0)] sz q) → MQ below (mQc g b e0 sz fin) args s mc ms (va_A [(b, e0)] sz) = Q → ∀ (H : Heap) (locs : List Loc) (ls : Array Slot), va_P g.2.1 vwCl [(b, e0)] H → va_D (va_A [(b, e0)] sz) [(b, e0)] → va_S (va_A [(b, e0)] sz) s.heap H locs → lv_has ls nL [(0, .ref b)] → W p l e (rmC d mc ms) s m args below meth c H locs 0 0 Q (F0 m 0 ls [])) :
    KM l y cc nL d mc ms g b e0 sz fin := by
  refine Met.ofW (cc := cc) (maxL := nL) (ret := none) hy rfl ?_
  intro p e s m args below meth c s₁ B hml hv
  obtain ⟨rfl, hsz, hP, hK, hD, hZ⟩ := hv
  have hown : s.vm.findClass own = some m.cls := by rw [← hcls]; exact findClass_of_methodNamed B.named
  have hin : meth.name = "<init>" := by rw [← hnm]; exact (name_of_methodNamed B.named B.method).1
  rw [lg_entry_eq]
  exact body p e s m _ below meth c _ (q_cx hg B hml hK hown) hZ B.returns hin (fun q h => Or.inr (by rw [← hsz]; exact h)) rfl s.heap [] _ hP hD.self va_S.rf (lv_entry [.ref b] hle)
/-- a constructor is called on the cell in front -/
theorem m_callF {S : Type} {y : MethodName} {bytes : ByteArray} {maxL d' mc ms b : Nat} {e0 : va_E} {fin : S → va_W} {pl : va_W} (cx : Cx p s m args meth c cc nL own g) (hZ : mZ s) (hP : va_P g.2.1 vwCl ([(b, e0)] ++ pl) H) (hD : va_D A ([(b, e0)] ++ pl)) (hS : va_S A H0 H locs) (hA : ∀ q, H0.size ≤ q → A q)
    (hrun : va_Run p l e R s m args below meth c H locs cells slots mc ms (F0 m pc ls (.ref b :: rest)) rest (mQc g b e0 H.size fin ([Value.ref b]).toArray) (va_A [(b, e0)] H.size))
    (kk : ∀ (u : S) (H1 : Heap) (locs1 : List Loc), va_P g.2.1 vwCl (fin u ++ pl) H1 → va_D A (fin u ++ pl) → va_S A H0 H1 locs1 → W p l e R s m args below meth c H1 locs1 (cells + mc) (slots + ms) Q (F0 m (pc + 3) ls rest)) : W p l e R s m args below meth c H locs cells slots Q (F0 m pc ls (.ref b :: rest)) := by
  have hF : ∀ q, va_A [(b, e0)] H.size q → A q := by
    intro q h
    rcases h with ⟨k, e1, h⟩ | h
    · have hk : k = 0 := by
        have := (List.getElem?_eq_some_iff.mp h).1
        simpa using this
      subst hk
      cases h
      exact hD.2 0 (b, e0) rfl
    · exact hA q (Nat.le_trans hS.1 h)
  refine va_callv hrun hS (fun q _ h => hF q h) hF (fun u t H1 locs1 ht hvm _ hB hz1 hk1 hS1 => ?_)
  obtain ⟨hP1, hD1⟩ := hB
  rw [ht] at hP1
  obtain ⟨hP2, hD2⟩ := va_joinQ (X := [(b, e0)]) (cx := [(b, e0)]) (wr := []) (w1 := fin u) (pl := pl) hP hD [0] [] rfl rfl (by decide) (by simp) hk1 hF hP1 hD1
  exact kk u H1 locs1 hP2 hD2 hS1
theorem m_preS {b : Nat} {e0 : va_E} {pl : va_W} (cx : Cx p s m args meth c cc nL own g) (hZ : mZ s) (hP : va_P g.2.1 vwCl ([(b, e0)] ++ pl) H) (hD : va_D A ([(b, e0)] ++ pl)) : PreS s H (mPc g b e0 H.size) [.ref b] := by
  have hP0 : va_P g.2.1 vwCl [(b, e0)] H := hP.by (fun k => k) (fun k q h => by
    have hk : k = 0 := by
      have := (List.getElem?_eq_some_iff.mp h).1
      simpa using this
    subst hk
    exact h)
  refine ⟨m_blind, fun U hU hW => ⟨rfl, by rw [hU], by rw [hU]; exact hP0, va_K.moved hW.alike cx.2.2.2.2.2.2.1, ⟨fun i j x y hx hy _ => ?_, fun _ _ _ => trivial⟩, mZ_warm hW hZ⟩⟩
  have h1 := (List.getElem?_eq_some_iff.mp hx).1
  have h2 := (List.getElem?_eq_some_iff.mp hy).1
  simp at h1 h2
  omega
theorem m_call {S : Type} {y : MethodName} {bytes : ByteArray} {maxL d' mc ms b : Nat} {e0 : va_E} {fin : S → va_W} {pl : va_W} (cx : Cx p s m args meth c cc nL own g) (hZ : mZ s) (hP : va_P g.2.1 vwCl ([(b, e0)] ++ pl) H) (hD : va_D A ([(b, e0)] ++ pl)) (hS : va_S A H0 H locs) (hA : ∀ q, H0.size ≤ q → A q)
    (hM : ∀ sz, KM l y bytes maxL d' mc ms g b e0 sz fin) (Y : Yw y bytes maxL none 0) (hyn : y.name = "<init>") (hyi : Cond.instanceMethod y ∈ qw) (hl : Cond.methodLink own index y ∈ qw) (hR : d' + 1 ≤ R.frames ∧ 64 * d' + 64 ≤ R.locals ∧ cells + mc ≤ R.cells ∧ slots + ms ≤ R.slots) (hz : ls.size = nL) (h8 : (rest.map fun v => v.category).sum ≤ 8) (hdg : decode cc pc = .ok (.invokespecial index, 3))
    (kk : ∀ (u : S) (H1 : Heap) (locs1 : List Loc), va_P g.2.1 vwCl (fin u ++ pl) H1 → va_D A (fin u ++ pl) → va_S A H0 H1 locs1 → W p l e R s m args below meth c H1 locs1 (cells + mc) (slots + ms) Q (F0 m (pc + 3) ls rest)) : W p l e R s m args below meth c H locs cells slots Q (F0 m pc ls (.ref b :: rest)) := by
  refine m_callF (y := y) (bytes := bytes) (maxL := maxL) (d' := d') cx hZ hP hD hS hA (va_runI (g := F0 m pc ls (.ref b :: rest)) (b := b) (As := []) (rest := rest) (q_fix cx) (hM H.size) ⟨callB_of 0 cx.2.2.2.2.1 (qw_sub Y.1) rfl rfl rfl (cx.2.2.2.2.1 _ Y.2.1) (cx.2.2.2.2.1 _ hl) Y.2.2.1 ⟨hR.1, ?_⟩, hyn, cx.2.2.2.2.1 _ hyi⟩ (m_preS cx hZ hP hD) rfl rfl hz rfl (lv_room h8) hdg hR.2.2) kk
  show 8 + (maxL + 11) + 64 * d' ≤ R.locals
  have := hR.2.1
  have := Y.2.2.2
  omega
theorem m_callN {S : Type} {y : MethodName} {bytes : ByteArray} {maxL d' mc ms b : Nat} {e0 : va_E} {fin : S → va_W} {pl : va_W} {host : String} (cx : Cx p s m args meth c cc nL own g) (hZ : mZ s) (hP : va_P g.2.1 vwCl ([(b, e0)] ++ pl) H) (hD : va_D A ([(b, e0)] ++ pl)) (hS : va_S A H0 H locs) (hA : ∀ q, H0.size ≤ q → A q)
    (hM : ∀ sz, KM l y bytes maxL d' mc ms g b e0 sz fin) (Y : Yw y bytes maxL none 0) (hyn : y.name = "<init>") (hyi : Cond.instanceMethod y ∈ qw) (hl : va_Nw (.methodLinkNest own index y host) s) (hR : d' + 1 ≤ R.frames ∧ 64 * d' + 64 ≤ R.locals ∧ cells + mc ≤ R.cells ∧ slots + ms ≤ R.slots) (hz : ls.size = nL) (h8 : (rest.map fun v => v.category).sum ≤ 8) (hdg : decode cc pc = .ok (.invokespecial index, 3))
    (kk : ∀ (u : S) (H1 : Heap) (locs1 : List Loc), va_P g.2.1 vwCl (fin u ++ pl) H1 → va_D A (fin u ++ pl) → va_S A H0 H1 locs1 → W p l e R s m args below meth c H1 locs1 (cells + mc) (slots + ms) Q (F0 m (pc + 3) ls rest)) : W p l e R s m args below meth c H locs cells slots Q (F0 m pc ls (.ref b :: rest)) := by
  refine m_callF (y := y) (bytes := bytes) (maxL := maxL) (d' := d') cx hZ hP hD hS hA (va_runIN (g := F0 m pc ls (.ref b :: rest)) (b := b) (As := []) (rest := rest) (host := host) (q_fix cx) (hM H.size) ⟨va_cnB 0 cx.2.2.2.2.1 (qw_sub Y.1) rfl rfl rfl hl (cx.2.2.2.2.1 _ Y.2.1) Y.2.2.1 ⟨hR.1, ?_⟩, hyn, cx.2.2.2.2.1 _ hyi⟩ (m_preS cx hZ hP hD) rfl rfl hz rfl (lv_room h8) hdg hR.2.2) kk
  show 8 + (maxL + 11) + 64 * d' ≤ R.locals
  have := hR.2.1
  have := Y.2.2.2
  omega
end MM
section MP
variable {p : Program} {l : Launch} {e : Env} {R : Room} {s : State} {m : MethodId} {args : Array Value} {below : List Frame} {meth : Method} {c : Code} {H : Heap} {locs : List Loc} {cells slots : Nat} {Q : State → Prop}
variable {cc : ByteArray} {pc nL index : Nat} {ls : Array Slot} {rest : List Value} {own : String} {g : Gw} {H0 : Heap} {A : Nat → Prop} {ws : va_W}
theorem m_putR (cx : Cx p s m args meth c cc nL own g) (hin : meth.name = "<init>") {T : u_T} {N ci k b q : Nat} {fs : List Value} {ty : FieldType} (hw : ∀ w ∈ u_ws own T N, w ∈ qw) {ty0 : Nat → FieldType} (hty : ∀ k, k < N → parseFieldDescriptor (T k).2.2.1 = some (ty0 k)) (hnm : ∀ a, a < N → ∀ b, b < N → a ≠ b → (T a).2.1 ≠ (T b).2.1) (hP : va_P g.2.1 vwCl ((b, .inr (ci, fs)) :: ws) H) (hD : va_D A ((b, .inr (ci, fs)) :: ws)) (hS : va_S A H0 H locs) (hc : vwCl[ci]? = some (own, T, N)) (hk : k < N)
    (hl : Cond.fieldLink own index own (T k).2.1 (T k).2.2.1 ∈ qw) (hT : (T k).1 = own) (hfin : (T k).2.2.2 = true) (hds : parseFieldDescriptor (T k).2.2.1 = some ty) (hn : narrow ty (.ref q) = .ref q) (hfit : fits ty (.ref q) = true) (hlen : k < fs.length) (hd : decode cc pc = .ok (.putfield index, 3))
    (kk : ∀ (H1 : Heap) (locs1 : List Loc), va_P g.2.1 vwCl ((b, .inr (ci, fs.set k (.ref q))) :: ws) H1 → va_D A ((b, .inr (ci, fs.set k (.ref q))) :: ws) → va_S A H0 H1 locs1 → W p l e R s m args below meth c H1 locs1 cells slots Q (F0 m (pc + 3) ls rest)) : W p l e R s m args below meth c H locs cells slots Q (F0 m pc ls (.ref q :: .ref b :: rest)) :=
  va_putF (ws := (b, .inr (ci, fs)) :: ws) cx.1 cx.2.1 cx.2.2.2.2.1 hw ty0 hty hnm cx.2.2.2.1 cx.2.2.2.2.2.2.1 hP hD hS 0 rfl hc k hk (cx.2.2.2.2.1 _ hl) (fun x h => by rw [hT] at h; exact h) hfin hin hT hds hn hfit hlen hd kk
theorem m_putI (cx : Cx p s m args meth c cc nL own g) {T : u_T} {N ci k b : Nat} {fs : List Value} {v : Int32} (hw : ∀ w ∈ u_ws own T N, w ∈ qw) {ty0 : Nat → FieldType} (hty : ∀ k, k < N → parseFieldDescriptor (T k).2.2.1 = some (ty0 k)) (hnm : ∀ a, a < N → ∀ b, b < N → a ≠ b → (T a).2.1 ≠ (T b).2.1) (hP : va_P g.2.1 vwCl ((b, .inr (ci, fs)) :: ws) H) (hD : va_D A ((b, .inr (ci, fs)) :: ws)) (hS : va_S A H0 H locs) (hc : vwCl[ci]? = some (own, T, N)) (hk : k < N)
    (hl : Cond.fieldLink own index own (T k).2.1 (T k).2.2.1 ∈ qw) (hT : (T k).1 = own) (hfin : (T k).2.2.2 = false) (hds : parseFieldDescriptor (T k).2.2.1 = some .int) (hlen : k < fs.length) (hd : decode cc pc = .ok (.putfield index, 3))
    (kk : ∀ (H1 : Heap) (locs1 : List Loc), va_P g.2.1 vwCl ((b, .inr (ci, fs.set k (.int v))) :: ws) H1 → va_D A ((b, .inr (ci, fs.set k (.int v))) :: ws) → va_S A H0 H1 locs1 → W p l e R s m args below meth c H1 locs1 cells slots Q (F0 m (pc + 3) ls rest)) : W p l e R s m args below meth c H locs cells slots Q (F0 m pc ls (.int v :: .ref b :: rest)) :=
  va_put (ws := (b, .inr (ci, fs)) :: ws) cx.1 cx.2.1 cx.2.2.2.2.1 hw ty0 hty hnm cx.2.2.2.1 cx.2.2.2.2.2.2.1 hP hD hS 0 rfl hc k hk (cx.2.2.2.2.1 _ hl) (fun x h => by rw [hT] at h; exact h) hfin hds rfl rfl hlen hd kk
end MP
