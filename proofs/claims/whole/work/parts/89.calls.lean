/-! calls by hand: one that comes back, one whose throw is caught -/
abbrev rmL : Room := { frames := 7, cells := 1, slots := 6, locals := 200 }
theorem callVT {p : Program} {l : Launch} {e : Env} {R : Room} {s : State} {m : MethodId} {args : Array Value} {below : List Frame} {meth : Method} {c : Code} {T : State} {locs : List Loc} {cells slots : Nat} (X : Stand p l e R s m args below meth c T locs cells slots) (hexec : p.tables.exec = Jvm.exec) {own C : String} {index : Nat} {y : MethodName} {bytes : ByteArray} {maxL : Nat} {ret : Option FieldType}
    (hown : s.vm.findClass own = some m.cls) (hlink : (Cond.methodLink own index y).before args s = true) (hinst : (Cond.instanceMethod y).before args s = true) (hsel : (Cond.selects C y y).before args s = true)
    (hcode : (Cond.code y bytes maxL ret).before args s = true) (hy : y.cls ≠ "java/lang/invoke/MethodHandle" ∧ y.cls ≠ "java/lang/invoke/VarHandle")
    {W : Nat} {Pre : Pt → Array Value → Prop} {Post : Pt → Array Value → Addr → Pt → Prop} (hK : BackT l R p e below s args y 3 W Pre Post)
    {b : Addr} {cellB : Cell} (hcell : T.heap[b]? = some cellB) (hobj : cellB.vm.isStatics = false) (hcls : s.vm.findClass C = some cellB.cls)
    {g : JFrame} (hg : g.method = m) (hsize : g.locals.size = c.maxLocals) {argsL rest : List Value} (hlen : ∀ sig, parseMethodDescriptor y.desc = some sig → argsL.length = sig.parameters.length)
    (hstack : g.stack = argsL.reverse ++ .ref b :: rest) (hW : 2 * g.monitorRoom + (rest.map fun v => v.category).sum ≤ W) (hdg : decode c.code g.pc = .ok (.invokevirtual index, 3))
    (hpre : ∀ vm₁, s.WarmedH vm₁ → Pre ⟨T.setVm vm₁, locs, cells, slots⟩ (Value.ref b :: argsL).toArray) :
    ∃ (x : Addr) (vm₁ : Vm) (B : Pt), s.WarmedH vm₁ ∧ Stand p l e R s m args below meth c B.U B.locs B.cells B.slots ∧ Post ⟨T.setVm vm₁, locs, cells, slots⟩ (Value.ref b :: argsL).toArray x B ∧
      Steps p.tables e below (T.setTop g) ((B.U.setTop { g with stack := rest }).pushFrame (.throwing x)) := by
  obtain ⟨mk, methM, hnamed, hmethM, hstM, habM⟩ := Cond.instanceMethod_spec hinst
  obtain ⟨methM', cM, hmethM', -, -, -, -, -, -, hsigM⟩ := Cond.code_spec hnamed hcode
  cases hmethM.symm.trans hmethM'
  obtain ⟨c2, r2, m2, q1, q2, q3, q4, kP, hkP, hkPi⟩ := Cond.selects_spec hsel
  cases hcls.symm.trans q1
  cases (State.methodFound?_of_named hnamed hy).symm.trans q2
  cases hnamed.symm.trans q3
  have hselP : selectMethod e.platform s.vm cellB.cls mk = .method mk := by rw [Launch.admits_selectMethod X.admits]; exact q4
  obtain ⟨vm₁, X₁, hstep₁⟩ := X.invokevirtual hexec hown hlink hnamed hmethM hstM hkP hkPi hy (a := b) (cell := cellB) hcell
    (fun z h => by rw [h] at hobj; cases hobj) hselP hmethM habM hkP hkPi (g := g) hg (argsL := argsL) (rest := rest) (hlen _ hsigM) hstack hdg
  obtain ⟨v, B, X', hpost, hsteps⟩ := hK m meth c ⟨T.setVm vm₁, locs, cells, slots⟩ { g with stack := rest } (.invokevirtual index) mk (Value.ref b :: argsL).toArray X₁ hg hsize hdg hW (X₁.named hnamed) (hpre vm₁ X₁.warmed)
  exact ⟨v, vm₁, B, X₁.warmed, X', hpost, hstep₁ _ fun acts => by rw [doInvoke_state]; exact hsteps⟩
def PostT (s : State) : Pt → Array Value → Addr → Pt → Prop := fun A _ x B => A.U.heap.size ≤ x ∧ (∃ ce : Cell, B.U.heap[x]? = some ce ∧ s.vm.findClass nse = some ce.cls ∧ ce.vm = .none) ∧ (∀ (q : Nat) (c : Cell), A.U.heap[q]? = some c → B.U.heap[q]? = some c) ∧ B.locs = A.locs ∧ B.cells = A.cells + 1 ∧ B.slots = A.slots + 6
theorem PcT_blind (g : ma_G) (av : List Value) (h : ma_H) : FrameBlind (PcT g av h) := by
  intro a U f mk q
  obtain ⟨q0, q1, q2, q3, q4⟩ := q
  exact ⟨q0, q1, q2, ma_KK.same (s := U) (U := U.calling f mk a) rfl q3, q4.same rfl rfl⟩
theorem backT {p : Program} {l : Launch} {e : Env} {R : Room} {s : State} {args : Array Value} {below : List Frame} {mj : ma_M} {g : ma_G} {h : ma_H} {av : List Value} (hM : MetFree l mj.1 (headSpec (ma_wo mj) rmT) (PcT g av h) (fun _ _ _ _ _ => True) QT)
    (hfr : 7 ≤ R.frames) (hlo : 8 + (mj.2.2.1 + 11) + 150 ≤ R.locals) (hts : ∀ w ∈ ma_wd, w.before args s = true) (hcode : Cond.code mj.1 mj.2.1 mj.2.2.1 mj.2.2.2.1 ∈ ma_wd) (hini : Cond.initialized mj.1.cls ∈ ma_wd) :
    BackT l R p e below s args mj.1 3 8 (fun A a => A.cells + 1 ≤ R.cells ∧ A.slots + 6 ≤ R.slots ∧ PcT g av h a A.U) (PostT s) := by
  have wd : ∀ w ∈ ma_wd, ∀ (a' : Array Value) (U : State), s.WarmedH U.vm → w.before a' U = true := fun w hw a' U hW => word_at hW (good_of_word (List.all_eq_true.mp ma_wdok w hw)) (hts w hw)
  refine BackT.of_free (S := headSpec (ma_wo mj) rmT) (bytes := mj.2.1) (maxL := mj.2.2.1) (ret := mj.2.2.2.1) (E := fun _ _ _ _ L k n => L = [] ∧ k = 1 ∧ n = 6) hM hfr hlo ?_ ?_ (fun _ _ _ _ _ _ _ _ _ => trivial) ?_ ?_
  · intro m meth c A a X hp
    refine ⟨atoms_intro fun w hw => ?_, wd _ hcode _ _ X.warmed, wd _ hini _ _ X.warmed, hp.1, hp.2.1⟩
    rcases List.mem_cons.mp hw with rfl | h2
    · exact wd _ hcode _ _ X.warmed
    · exact wd _ h2 _ _ X.warmed
  · intro m meth c A a g' mk X hp
    exact PcT_blind _ _ _ _ _ _ _ hp.2.2
  · intro a st o t ⟨x, ce, h1, h2, h3, h4, h5, h6⟩
    exact ⟨[], 1, 6, h6, rfl, rfl, rfl⟩
  · intro m meth c A a g' mk v t L k n X hp hq hF ⟨e1, e2, e3⟩
    subst e1; subst e2; subst e3
    obtain ⟨x, ce, h1, h2, h3, h4, h5, h6⟩ := hq
    cases h1
    have hv : A.U.vm.findClass nse = some ce.cls := h4
    refine ⟨h2, ⟨ce, h3, by rw [← X.warmed.alike.findClass]; exact hv, h5⟩, fun q c0 hc => ?_, by simp, rfl, rfl⟩
    exact State.sameButNew.old_cell h6.2.2 (s := A.U.calling g' mk a) hc
