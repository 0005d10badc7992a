/-! calls by hand: one that comes back, one whose throw is caught -/
abbrev rmL : Room := { frames := 7, cells := 1, slots := 6, locals := 200 }
theorem PcT_blind (g : ma_G) (av : List Value) (h : ma_H) : FrameBlind (PcT g av h) := by
  intro a U f mk q
  obtain ⟨q0, q1, q2, q3, q4⟩ := q
  exact ⟨q0, q1, q2, ma_KK.same (s := U) (U := U.calling f mk a) rfl q3, q4.same rfl rfl⟩
section
variable {p : Program} {l : Launch} {e : Env} {R : Room} {s : State} {m : MethodId} {args : Array Value} {below : List Frame} {meth : Method} {c : Code} {T : State} {locs : List Loc} {cells slots : Nat}
/-- an invocation of out or block that throws: the note lies over the caller's frame -/
theorem thr_run {mj : ma_M} {gg : ma_G} {h : ma_H} {av : List Value} (X : Stand p l e R s m args below meth c T locs cells slots) (hM : MetFree l mj.1 (headSpec (ma_wo mj) rmT) (PcT gg av h) (fun _ _ _ _ _ => True) QT)
    (hfr : 7 ≤ R.frames) (hlo : 8 + (mj.2.2.1 + 11) + 150 ≤ R.locals) (hcc : cells + 1 ≤ R.cells) (hss : slots + 6 ≤ R.slots) {a : Array Value} (hwd : ∀ w ∈ ma_wd, w.before a T = true) (hcode : Cond.code mj.1 mj.2.1 mj.2.2.1 mj.2.2.2.1 ∈ ma_wd) (hini : Cond.initialized mj.1.cls ∈ ma_wd) (hP : PcT gg av h a T)
    {g : JFrame} (hg : g.method = m) (hsize : g.locals.size = c.maxLocals) {ig : Instr} (hdg : decode c.code g.pc = .ok (ig, 3)) (hW : 2 * g.monitorRoom + (g.stack.map fun v => v.category).sum ≤ 8) {mk : MethodId} (hn : T.methodNamed? mj.1 = some mk) :
    ∃ (x : Addr) (V : State), Stand p l e R s m args below meth c V locs (cells + 1) (slots + 6) ∧ T.heap.size ≤ x ∧ (∃ ce : Cell, V.heap[x]? = some ce ∧ T.vm.findClass nse = some ce.cls ∧ ce.vm = .none) ∧ (∀ (q : Nat) (c : Cell), T.heap[q]? = some c → V.heap[q]? = some c) ∧
      Steps p.tables e below (doInvoke e (T.setTop g) [] mk a).1 ((V.setTop g).pushFrame (.throwing x)) := by
  subst hg
  obtain ⟨my, cy, hmy, hcy, -, hly, -⟩ := Cond.code_spec hn (hwd _ hcode)
  obtain ⟨ky, hky, -⟩ := className_of_methodNamed hn
  have hir : ky.init = .initialized := Cond.initialized_spec (findClass_of_methodNamed hn) hky (hwd _ hini)
  have hroom := X.room_calling (g := g) (R' := rmT) (args' := a) hsize hmy hcy hfr (by rw [hly]; show _ + _ + 150 ≤ _; omega) hcc hss
  have happ := Spec.appliesLoose_calling (S := headSpec (ma_wo mj) rmT) (g := g) (e := e) X.here hdg hn hky hir hroom (atoms_intro (fun w hw => by
    rcases List.mem_cons.mp hw with rfl | h2
    · exact hwd _ hcode
    · exact hwd _ h2))
  obtain ⟨mid, hmid⟩ := X.here.above
  have hfrm : (T.setTop g).frames = (.java g :: mid) ++ below := by rw [State.frames_setTop' g X.here.top, hmid]; rfl
  obtain ⟨o, t, hst, -, hE, hQ⟩ := Steps.callFree hM p X.admits X.cas X.clock (acts := []) hfrm happ (PcT_blind _ _ _ _ _ g mk hP) trivial
  obtain ⟨x, ce, rfl, hx, hce, hcl, hcv, hfe⟩ := hQ
  rw [State.frames_setTop' g X.here.top] at hE
  obtain ⟨-, hWt, hsn0⟩ := hfe
  have hsn : (T.calling g mk a).sameButNew ({ t with vm := (T.calling g mk a).vm } : State) [] 1 6 := hsn0
  have hWT : T.WarmedH t.vm := hWt
  have hft : t.frames = .throwing x :: .java g :: T.frames.tail := hE
  obtain ⟨g0, hg0⟩ := Option.isSome_iff_exists.mp X.here.top
  obtain ⟨r, hr⟩ := State.topJava?_eq_some.mp hg0
  have hfin : t = (((({ T with heap := t.heap, slotsUsed := t.slotsUsed } : State).setVm t.vm).setTop g).pushFrame (.throwing x)) := by
    have k1 : t = ({ (T.calling g mk a).setFrames t.frames with heap := t.heap, slotsUsed := t.slotsUsed } : State).setVm t.vm := by
      have k2 := hsn.1
      have k3 : t = ({ t with vm := (T.calling g mk a).vm } : State).setVm t.vm := rfl
      rw [k2] at k3
      exact k3
    have hr2 : (({ T with heap := t.heap, slotsUsed := t.slotsUsed } : State).setVm t.vm).frames = .java g0 :: r := hr
    refine k1.trans ?_
    rw [hft, State.calling_eq X.here.top, State.setFrames_setFrames, State.pushFrame, State.frames_setTop _ hr2, State.setTop_of_frames _ hr2, State.setFrames_setFrames, hr]
    rfl
  have hsm : T.sameButNew ({ T with heap := t.heap, slotsUsed := t.slotsUsed } : State) [] 1 6 := by
    refine ⟨?_, hsn.2⟩
    obtain ⟨u, hu, -⟩ := State.frames_cons hr
    show ({ T with heap := t.heap, slotsUsed := t.slotsUsed } : State) = { T.setFrames T.frames with heap := t.heap, slotsUsed := t.slotsUsed }
    rw [State.setFrames_self hu]
  refine ⟨x, ({ T with heap := t.heap, slotsUsed := t.slotsUsed } : State).setVm t.vm, ?_, hx, ⟨ce, hce, hcl, hcv⟩, fun q c0 hq => State.sameButNew.old_cell hsm hq, ?_⟩
  · exact ⟨X.admits, X.cas, X.clock, X.frames, X.room, X.hears, X.method, X.code, (X.here.setHeapUsed t.heap t.slotsUsed).setVm hWT.alike, X.tail, State.WarmedH.trans X.warmed hWT, X.limits, X.bytes, by
      have z := X.same.trans (hsm.setVm s.vm)
      rw [List.append_nil] at z
      exact z⟩
  · rw [← hfin]
    exact hst
/-- caught by the one entry of the method's table, its class resolved or not yet -/
theorem caught_one (X : Stand p l e R s m args below meth c T locs cells slots) (x : Addr) {g : JFrame} (hg : g.method = m) {own name : String} (hown : s.vm.findClass own = some m.cls) {en : ExceptionTableEntry} (hone : c.exceptionTable.toList = [en]) (hcov : covers en g.pc = true) (h0 : en.catchType ≠ 0)
    (hlink : (Cond.classLink own en.catchType name).before args s = true) {cT : ClassId} {cell : Cell} (hcT : s.vm.findClass name = some cT) (hcell : T.heap[x]? = some cell) (hobj : cell.vm.isStatics = false) (hfit : s.vm.assignable cell.cls cT = true) :
    ∃ vm', Stand p l e R s m args below meth c (T.setVm vm') locs cells slots ∧ Steps p.tables e below ((T.setTop g).pushFrame (.throwing x)) ((T.setVm vm').setTop { g with pc := en.handlerPc, stack := [.ref x] }) := by
  subst hg
  have hpl : e.platform.magicAccessors = ({} : Platform).magicAccessors := by rw [X.admits.platform]
  obtain ⟨c1, hc1, hcl⟩ := Cond.classLink_spec hown hlink e.platform hpl
  cases hcT.symm.trans hc1
  obtain ⟨dk, _, _, kt, hd, _, _, _, _, hkt, _, hopen⟩ := hcl.here
  have hclT := X.warmed.classLinks hcl
  have hWV : s.WarmedH (T.vm.noted g.method.cls en.catchType (.cls cT)) := X.warmed.noted hd hopen (State.rightAt_cls hcl)
  have hal := X.warmed.alike
  obtain ⟨kt2, hkt2, -⟩ := hal.2.2 _ _ hkt
  have hfT : T.vm.assignable cell.cls cT = true := by rw [hal.assignable]; exact hfit
  obtain ⟨kc, hkc⟩ := Vm.classAt_of_assignable hfT ⟨kt2, hkt2⟩
  have hnv : T.vm.Alike (T.vm.noted g.method.cls en.catchType (.cls cT)) := (Vm.Alike.refl T.vm).noted _ _ _
  obtain ⟨kc3, hkc3, -⟩ := hnv.2.2 _ _ hkc
  obtain ⟨kt3, hkt3, -⟩ := hnv.2.2 _ _ hkt2
  have hf3 : (T.vm.noted g.method.cls en.catchType (.cls cT)).assignable cell.cls cT = true := by rw [hnv.assignable]; exact hfT
  refine ⟨_, X.noted hWV, ?_⟩
  have hcv := hcov
  simp only [covers] at hcv
  have hstat : ∀ k, cell.vm ≠ .statics k := VmData.ne_statics_of hobj
  generalize hu : (T.setTop g).pushFrame (.throwing x) = u
  have u1 : u.vm = T.vm := by rw [← hu]; exact Stand.throwing_vm T g x
  have u2 : u.heap = T.heap := by rw [← hu]; exact Stand.throwing_heap T g x
  have find : ∀ (Q : Handler → Pre) (E : CtlPost) (d : Bool) (acts : List Action), wp (findHandler g x) Q E e d acts u ↔ Q (.found en.handlerPc) d acts (u.setVm (u.vm.noted g.method.cls en.catchType (.cls cT))) := by
    intro Q E d acts
    rw [Jvm.W.findHandler_eq (meth := meth) (code := c) (by rw [u1]; exact X.method') X.code, hone]
    obtain ⟨ha, ht⟩ := (resolveClass_links e.toSetting (vm := u.vm) (by rw [u1]; exact hclT)).op (op := VmOp.resolveClass g.method.cls en.catchType) rfl
    have hcu : u.heap[x]? = some cell := by rw [u2]; exact hcell
    rw [← u1] at hkc3 hkt3 hf3
    simp [findHandler.go, hcv, h0, ha, ht, hcu, hstat, hkc3, hkt3, hf3, VmOp.dirties, VmOp.acts]
  rw [u1] at find
  generalize T.vm.noted g.method.cls en.catchType (.cls cT) = V at find ⊢
  obtain ⟨hgo, hin⟩ := X.here.throwing x
  rw [hu] at hgo hin
  refine Steps.head hgo hin ?_
  have hfu : u.frames = .throwing x :: .java g :: T.frames.tail := by rw [← hu]; exact frames_entered X.here.top _
  rw [stepThread_throwing hfu]
  have hs1 : (stepThrowing e u x (.java g :: T.frames.tail)).1 = (u.setVm V).setFrames (.java { g with pc := en.handlerPc, stack := [.ref x] } :: T.frames.tail) := by
    simp only [stepThrowing, searchFrame, vmDo]
    generalize hr : Sem.go _ e false [] u = res
    obtain ⟨as, rfl, ha⟩ := Sem.eq_ok_of hr (a := Handler.found en.handlerPc) (s' := u.setVm V) (acts' := []) (by simp [find _ _ _ _])
    rfl
  rw [hs1]
  obtain ⟨g0, hg0⟩ := Option.isSome_iff_exists.mp X.here.top
  obtain ⟨r, hr⟩ := State.topJava?_eq_some.mp hg0
  have e1 : (u.setVm V).setFrames (.java { g with pc := en.handlerPc, stack := [.ref x] } :: T.frames.tail) = (T.setVm V).setTop { g with pc := en.handlerPc, stack := [.ref x] } := by
    have hr2 : (T.setVm V).frames = .java g0 :: r := hr
    rw [State.setTop_of_frames _ hr2, ← hu, State.pushFrame, State.setTop_of_frames _ hr, hr]
    show (((T.setFrames _).setFrames _).setVm V).setFrames _ = _
    rw [State.setFrames_setFrames]
    show ((T.setVm V).setFrames _).setFrames _ = _
    rw [State.setFrames_setFrames]
    rfl
  rw [e1]
  exact Steps.refl _
theorem callVT {mj : ma_M} {gg : ma_G} {h : ma_H} {av : List Value} (X : Stand p l e R s m args below meth c T locs cells slots) (hexec : p.tables.exec = Jvm.exec) (hM : MetFree l mj.1 (headSpec (ma_wo mj) rmT) (PcT gg av h) (fun _ _ _ _ _ => True) QT)
    (hfr : 7 ≤ R.frames) (hlo : 8 + (mj.2.2.1 + 11) + 150 ≤ R.locals) (hcc : cells + 1 ≤ R.cells) (hss : slots + 6 ≤ R.slots) (hts : ∀ w ∈ ma_wd, w.before args s = true) (hcode : Cond.code mj.1 mj.2.1 mj.2.2.1 mj.2.2.2.1 ∈ ma_wd) (hini : Cond.initialized mj.1.cls ∈ ma_wd)
    {own C : String} {index : Nat} (hown : s.vm.findClass own = some m.cls) (hlink : Cond.methodLink own index mj.1 ∈ ma_wd) (hinst : Cond.instanceMethod mj.1 ∈ ma_wd) (hsel : Cond.selects C mj.1 mj.1 ∈ ma_wd) (hy : mj.1.cls ≠ "java/lang/invoke/MethodHandle" ∧ mj.1.cls ≠ "java/lang/invoke/VarHandle")
    {b : Addr} {cellB : Cell} (hcell : T.heap[b]? = some cellB) (hobj : cellB.vm.isStatics = false) (hcls : s.vm.findClass C = some cellB.cls)
    {g : JFrame} (hg : g.method = m) (hsize : g.locals.size = c.maxLocals) {argsL rest : List Value} (hlen : ∀ sig, parseMethodDescriptor mj.1.desc = some sig → argsL.length = sig.parameters.length)
    (hstack : g.stack = argsL.reverse ++ .ref b :: rest) (hW : 2 * g.monitorRoom + (rest.map fun v => v.category).sum ≤ 8) (hdg : decode c.code g.pc = .ok (.invokevirtual index, 3))
    (hpre : ∀ vm₁, s.WarmedH vm₁ → PcT gg av h (Value.ref b :: argsL).toArray (T.setVm vm₁)) :
    ∃ (x : Addr) (V : State), Stand p l e R s m args below meth c V locs (cells + 1) (slots + 6) ∧ T.heap.size ≤ x ∧ (∃ ce : Cell, V.heap[x]? = some ce ∧ s.vm.findClass nse = some ce.cls ∧ ce.vm = .none) ∧ (∀ (q : Nat) (c : Cell), T.heap[q]? = some c → V.heap[q]? = some c) ∧
      Steps p.tables e below (T.setTop g) ((V.setTop { g with stack := rest }).pushFrame (.throwing x)) := by
  obtain ⟨mk, mm, hnamed, hmm, hstM, habM⟩ := Cond.instanceMethod_spec (hts _ hinst)
  obtain ⟨mm2, cM, hmm2, -, -, -, -, -, -, hsig⟩ := Cond.code_spec hnamed (hts _ hcode)
  cases hmm.symm.trans hmm2
  obtain ⟨c2, r2, m2, q1, q2, q3, q4, kP, hkP, hkPi⟩ := Cond.selects_spec (hts _ hsel)
  cases hcls.symm.trans q1
  cases (State.methodFound?_of_named hnamed hy).symm.trans q2
  cases hnamed.symm.trans q3
  have hgo : selectMethod e.platform s.vm cellB.cls mk = .method mk := by rw [Launch.admits_selectMethod X.admits]; exact q4
  obtain ⟨v1, X1, st1⟩ := X.invokevirtual hexec hown (hts _ hlink) hnamed hmm hstM hkP hkPi hy (a := b) (cell := cellB) hcell (VmData.ne_statics_of hobj) hgo hmm habM hkP hkPi (g := g) hg (argsL := argsL) (rest := rest) (hlen _ hsig) hstack hdg
  have wd : ∀ w ∈ ma_wd, w.before (Value.ref b :: argsL).toArray (T.setVm v1) = true := fun w hw => word_at (U := T.setVm v1) X1.warmed (good_of_word (List.all_eq_true.mp ma_wdok w hw)) (hts w hw)
  obtain ⟨x, V, XV, hx, ⟨ce, k1, k2, k3⟩, hk, st2⟩ := thr_run X1 hM hfr hlo hcc hss wd hcode hini (hpre v1 X1.warmed) (g := { g with stack := rest }) hg hsize hdg hW (X1.named hnamed)
  exact ⟨x, V, XV, hx, ⟨ce, k1, by rw [← X1.warmed.alike.findClass]; exact k2, k3⟩, hk, st1 _ fun acts => by rw [doInvoke_state]; exact st2⟩
end
