/-! out and block of the class, where they throw -/
abbrev rmT : Room := { frames := 6, cells := 1, slots := 6, locals := 150 }
def PcT (g : ma_G) (av : List Value) (h : ma_H) : Array Value → State → Prop := va_Pc (av.map (ma_tv g)) (fun U => ma_at g false GS h U.heap ∧ g.2.2.1 ≤ U.heap.size ∧ ma_KK g U ∧ TW g.2.2.1 U)
def QT : Array Value → State → Outcome → State → Prop := fun _ st o t => ∃ (x : Addr) (ce : Cell), o = .threw x ∧ st.heap.size ≤ x ∧ t.heap[x]? = some ce ∧ st.vm.findClass nse = some ce.cls ∧ ce.vm = .none ∧ thr_E st o t 1 6
set_option maxRecDepth 30000 in
theorem cl_135 : Cond.classLink "StrandArchive" 135 nse ∈ ma_wd := List.mem_filter.mpr ⟨List.mem_of_getElem? (i := 537) rfl, rfl⟩
set_option maxRecDepth 30000 in
theorem in_nse : Cond.initialized nse ∈ ma_wd := List.mem_filter.mpr ⟨List.mem_of_getElem? (i := 55) rfl, rfl⟩
theorem pf_Arc_out : ma_okF me_Arc_out pr_Arc_out [7, 9, 10, 16] := ma_okF_of (by decide +kernel)
theorem pf_Arc_block : ma_okF me_Arc_block pr_Arc_block [6, 13, 15, 16, 30] := ma_okF_of (by decide +kernel)
section
variable {w0 : Cond} {H : Heap} {locs : List Loc} {p : Program} {e : Env} {s : State} {m : MethodId} {args : Array Value} {below : List Frame} {meth : Method} {cd : Code} {l : Launch} {g : ma_G} {mi : ma_M} {P : List ma_E} {k pc : Nat} {ls : List (Option Value)} {h : ma_H}
theorem tail_JF (hcls : mi.1.cls = "StrandArchive") (htr : e.platform.stackTraces = false) (hTW : TW g.2.2.1 s) (hemp : cd.exceptionTable.isEmpty = true) (hlocs : ∀ x ∈ locs, s.heap.size ≤ x.base) (hpc : ma_pcAt P k = some pc)
    (d0 : decode mi.2.1 pc = .ok (.new 135, 3)) (d1 : decode mi.2.1 (pc + 3) = .ok (.dup, 1)) (d2 : decode mi.2.1 (pc + 3 + 1) = .ok (.invokespecial 137, 3)) (d3 : decode mi.2.1 (pc + 3 + 1 + 3) = .ok (.athrow, 1)) :
    ma_JF w0 (ZT s below) rmT H locs p e s m args below meth cd l g false none mi P k ls [] 0 0 GS h := by
  intro la pc' hB hw hL hp T hT X
  cases hpc.symm.trans hp
  exact nse_tail X hB.1 hB.2.2.2.2.1 htr (by rw [← hcls]; exact hB.2.2.2.2.2.2.2.1) (fun w hw => hTW.use hw) (ma_wBS hB cl_135) (ma_wBS hB in_nse) hlocs (hL.1.trans hB.2.2.1.symm) hemp (by rw [hB.2.1]; exact d0) (by rw [hB.2.1]; exact d1) (by rw [hB.2.1]; exact d2) (by rw [hB.2.1]; exact d3) (by decide)
end
theorem thr_of {l : Launch} {g : ma_G} {h : ma_H} {av : List Value} {mi : ma_M} {P : List ma_E} (hl : l.stackTraces = false) (hpl : plainName mi.1.cls = true) (hp0 : ma_pcAt P 0 = some 0) (hlen : (ma_en av).length ≤ mi.2.2.1)
    (hJ : ∀ (p : Program) (e : Env) (s : State) (m : MethodId) (below : List Frame) (meth : Method) (cd : Code), e.platform.stackTraces = false → TW g.2.2.1 s → cd.exceptionTable.isEmpty = true →
      ma_JF (Cond.code mi.1 mi.2.1 mi.2.2.1 mi.2.2.2.1) (ZT s below) rmT s.heap [] p e s m (av.map (ma_tv g)).toArray below meth cd l g false none mi P 0 (ma_en av ++ List.replicate (mi.2.2.1 - (ma_en av).length) none) [] 0 0 GS h) :
    MetFree l mi.1 (headSpec (ma_wo mi) rmT) (PcT g av h) (fun _ _ _ _ _ => True) QT := by
  refine MetFree.of_bodyS (code := mi.2.1) (maxLocals := mi.2.2.1) (ret := mi.2.2.2.1) hpl ?_ ?_
  · intro args s m h hn
    obtain ⟨meth, c, h1, h2, h3, h4, h5, h6, -, -⟩ := Cond.code_spec hn (atoms_spec (ws := ma_wo mi) h _ List.mem_cons_self)
    exact ⟨meth, c, h1, h2, h3, h4, h5, h6⟩
  · intro p e s m args below meth c s₁ B hml hP _
    obtain ⟨rfl, hat, hb, hKK, hTW⟩ := hP
    have X0 : Stand p l e rmT s m (av.map (ma_tv g)).toArray below meth c s₁ [] 0 0 := Stand.of_body B
    have hh0 : s₁.heap = s.heap := by rw [B.state]; rfl
    have hcodeV : (Cond.code mi.1 mi.2.1 mi.2.2.1 mi.2.2.2.1).before (av.map (ma_tv g)).toArray s = true := atoms_spec (ws := ma_wo mi) B.pre _ List.mem_cons_self
    have hemp : c.exceptionTable.isEmpty = true := B.noHandlers hcodeV
    obtain ⟨la, e1, hL⟩ := ma_Len g m av hlen
    obtain ⟨t, st, x, ce, hr, hE, hx, hc1, hc2, hc3, hF⟩ := hJ p e s m below meth c (t_adm X0.admits hl) hTW hemp la 0 ⟨B.exec, B.bytes, hml, B.returns, B.notSynchronized, (name_of_methodNamed B.named B.method).1, atoms_spec (ws := ma_wo mi) B.pre, findClass_of_methodNamed B.named, hKK, hb, fun L xs q => by cases q⟩ ⟨hat.1, va_S.rf, fun q => by cases q⟩ hL hp0 s₁ hh0 X0
    rw [e1]
    exact ⟨t, .threw x, st, hr, hE, x, ce, rfl, hx, hc1, hc2, hc3, hF⟩
theorem out_throws {l : Launch} {g : ma_G} {h : ma_H} (hl : l.stackTraces = false) (hp : pt_ok h) {i : Int32} {n : Nat} (e0 : h.1 175 5 = nI n) (hi : ¬ (nI 0 ≤ i ∧ i < nI n)) : MetFree l me_Arc_out.1 (headSpec (ma_wo me_Arc_out) rmT) (PcT g [.ref 2, .int i] h) (fun _ _ _ _ _ => True) QT := by
  refine thr_of (P := pr_Arc_out) hl (by decide) rfl (Nat.le_of_ble_eq_true rfl) ?_
  intro p e s m below meth cd htr hTW hemp
  have tl : ma_JF (Cond.code me_Arc_out.1 me_Arc_out.2.1 me_Arc_out.2.2.1 me_Arc_out.2.2.2.1) (ZT s below) rmT s.heap [] p e s m ([Value.ref 2, .int i].map (ma_tv g)).toArray below meth cd l g false none me_Arc_out pr_Arc_out 7 [some (.ref 2), some (.int i)] [] 0 0 GS h :=
    tail_JF (pc := 15) rfl htr hTW hemp (fun x hx => by cases hx) rfl (by decide +kernel) (by decide +kernel) (by decide +kernel) (by decide +kernel)
  show ma_JF _ _ _ _ _ p e s m _ below meth cd l g false none me_Arc_out pr_Arc_out 0 [some (.ref 2), some (.int i)] [] 0 0 GS h
  refine ma_runF (mc := 1) (ms := 6) (fun _ _ _ => True) pf_Arc_out rfl rfl [7, 9, 10, 16] (by decide) 30 (by decide) ?_
  simp only [pa_Arc_out, ma_go, ev_A, ev_B, ev_C, ev_D, Nat.reduceAdd, List.mem_cons, List.not_mem_nil, or_false, or_true, true_or, false_or, or_self, Nat.reduceEqDiff, reduceCtorEq, ↓reduceIte, List.length_cons, List.length_nil, Nat.reduceLT, Nat.reduceLeDiff, Nat.le_refl, implies_true, true_and, and_true, Option.toList, List.cons_append, List.nil_append, gs_2, gs_175, pt_Arc hp, pt_Dec hp, e0]
  refine ⟨fun _ => tl, fun q => ⟨fun q2 => absurd ⟨?_, q2⟩ hi, fun _ => tl⟩⟩
  rw [Int32.lt_iff_toInt_lt] at q
  exact Int32.le_iff_toInt_le.mpr (by omega)
