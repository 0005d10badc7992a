/-! the law's calls of its two helpers -/
theorem callSW {p : Program} {l : Launch} {e : Env} {R : Room} {s : State} {m : MethodId} {args : Array Value} {below : List Frame} {meth : Method} {c : Code} {T : State} {locs : List Loc} {cells slots : Nat} (X : Stand p l e R s m args below meth c T locs cells slots) (hexec : p.tables.exec = Jvm.exec) {own : String} {index : Nat} {y : MethodName} {bytes : ByteArray} {maxL : Nat} {ret : Option FieldType} {hh : List (Nat × Nat × Nat × Nat)}
    (hown : s.vm.findClass own = some m.cls) (hlink : (Cond.methodLink own index y).before args s = true) (hstat : (Cond.static y).before args s = true) (hinit : (Cond.initialized y.cls).before args s = true)
    (hcode : (Cond.codeWith y bytes maxL ret hh).before args s = true) (hy : y.cls ≠ "java/lang/invoke/MethodHandle" ∧ y.cls ≠ "java/lang/invoke/VarHandle")
    {W : Nat} {Pre : Pt → Array Value → Prop} {Post : Pt → Array Value → Option Value → Pt → Prop} (hK : Back l R p e below s args y 3 W Pre Post)
    {g : JFrame} (hg : g.method = m) (hsize : g.locals.size = c.maxLocals) {argsL rest : List Value} (hlen : ∀ sig, parseMethodDescriptor y.desc = some sig → argsL.length = sig.parameters.length)
    (hstack : g.stack = argsL.reverse ++ rest) (hW : 2 * g.monitorRoom + (rest.map fun v => v.category).sum ≤ W) (hdg : decode c.code g.pc = .ok (.invokestatic index, 3))
    (hpre : ∀ vm₁, s.WarmedH vm₁ → Pre ⟨T.setVm vm₁, locs, cells, slots⟩ argsL.toArray) :
    ∃ (v : Option Value) (vm₁ : Vm) (B : Pt), s.WarmedH vm₁ ∧ Stand p l e R s m args below meth c B.U B.locs B.cells B.slots ∧ Post ⟨T.setVm vm₁, locs, cells, slots⟩ argsL.toArray v B ∧
      ∀ target, Steps p.tables e below (B.U.setTop { g with pc := g.pc + 3, stack := v.toList ++ rest }) target → Steps p.tables e below (T.setTop g) target := by
  obtain ⟨mk, methM, cM, hnamed, hmethM, -, -, -, -, -, -, hsigM⟩ := Cond.codeWith_spec hcode
  have hstatic : methM.isStatic = true := Cond.static_spec hnamed hmethM hstat
  obtain ⟨kP, hkP, -⟩ := className_of_methodNamed hnamed
  have hinitP : kP.init = .initialized := Cond.initialized_spec (findClass_of_methodNamed hnamed) hkP hinit
  obtain ⟨vm₁, X₁, hstep₁⟩ := X.invokestatic hexec hown hlink hnamed hmethM hstatic hkP hinitP hy (g := g) hg (argsL := argsL) (rest := rest) (hlen _ hsigM) hstack hdg
  obtain ⟨v, B, X', hpost, hsteps⟩ := hK m meth c ⟨T.setVm vm₁, locs, cells, slots⟩ { g with stack := rest } (.invokestatic index) mk argsL.toArray X₁ hg hsize hdg hW (X₁.named hnamed) (hpre vm₁ X₁.warmed)
  exact ⟨v, vm₁, B, X₁.warmed, X', hpost, fun target h => hstep₁ _ fun acts => by rw [doInvoke_state]; exact hsteps.trans h⟩
set_option maxRecDepth 30000 in
theorem st_39 : Cond.initialized "StrandArchiveLaw" ∈ ma_wd := ma_has_in (i := 39) rfl
section
variable {w0 : Cond} {Z : State → Prop} {p : Program} {e : Env} {s : State} {m : MethodId} {args : Array Value} {below : List Frame} {meth : Method} {cd : Code} {l : Launch} {g : ma_G} {scr : Option (Nat × (Nat → Int32))} {mi mj : ma_M} {P : List ma_E} {kc pcc idx nn c sl : Nat} {ls : List (Option Value)} {av rest : List Value} {h : ma_H} {hh : List (Nat × Nat × Nat × Nat)} {post : ma_P}
theorem hole_JS (hcls : mi.1.cls = "StrandArchiveLaw") (hTW : TW g.2.2.1 s) (hM : LM l g mj (Cond.codeWith mj.1 mj.2.1 mj.2.2.1 mj.2.2.2.1 hh) av h post) (hcode : Cond.codeWith mj.1 mj.2.1 mj.2.2.1 mj.2.2.2.1 hh ∈ ma_wd) (hmj : mj.1.cls = "StrandArchiveLaw")
    (hlink : Cond.methodLink "StrandArchiveLaw" idx mj.1 ∈ ma_wd) (hstat : Cond.static mj.1 ∈ ma_wd) (hdd : (parseMethodDescriptor mj.1.desc).map (fun d => d.parameters.length) = some nn) (hav : av.length = nn) (hR : 8 ≤ (ma_rm mi).frames ∧ 8 + (mj.2.2.1 + 11) + 200 ≤ (ma_rm mi).locals) (hcc : c + 1 ≤ (ma_rm mi).cells) (hss : sl + 6 ≤ (ma_rm mi).slots)
    (hd : decode mi.2.1 pcc = .ok (.invokestatic idx, 3)) (hpc : ma_pcAt P kc = some pcc) (hpn : ma_pcAt P (kc + 1) = some (pcc + 3)) (hcat : ma_cat rest ≤ 8)
    (hJ : ∀ v S' h', post v S' h' → ma_JS w0 Z p e s m args below meth cd l g false scr mi P (kc + 1) ls (v.toList ++ rest) (c + 1) (sl + 6) S' h') :
    ma_JS w0 Z p e s m args below meth cd l g false scr mi P kc ls (av.reverse ++ rest) c sl GS h := by
  intro H locs la pc hB hw hL hp T hT X
  cases hpc.symm.trans hp
  have hown : s.vm.findClass "StrandArchiveLaw" = some m.cls := by rw [← hcls]; exact hB.2.2.2.2.2.2.2.1
  have wd : ∀ w ∈ ma_wd, ∀ (a' : Array Value) (U : State), s.WarmedH U.vm → w.before a' U = true := fun w hw a' U hW => word_at hW (good_of_word (List.all_eq_true.mp ma_wdok w hw)) (ma_wBS hB hw)
  have hini : Cond.initialized mj.1.cls ∈ ma_wd := by rw [hmj]; exact st_39
  have hK : Back l (ma_rm mi) p e below s args mj.1 3 8 (PreOf (ma_rm mi) 1 6 (PcT g av h)) (PostOf (ma_Qc g false 1 post) 1 6 (fun q => g.2.2.1 ≤ q)) :=
    va_backW (hh := hh) (bytes := mj.2.1) (maxL := mj.2.2.1) (ret := mj.2.2.2.1) hM (PcT_blind _ _ _) rfl rfl hR.1 hR.2 (fun w hw => by
      rcases List.mem_cons.mp hw with rfl | h2
      · exact wd _ hcode
      · exact wd _ h2) List.mem_cons_self (fun a' U hW => wd _ hini a' U hW)
  have hlen : ∀ sig, parseMethodDescriptor mj.1.desc = some sig → (av.map (ma_tv g)).length = sig.parameters.length := by
    intro sig hs
    rw [hs] at hdd
    rw [List.length_map, hav]
    exact (Option.some.inj hdd).symm
  have hstk : (F0 m pcc la ((av.reverse ++ rest).map (ma_tv g))).stack = (av.map (ma_tv g)).reverse ++ rest.map (ma_tv g) := by
    show (av.reverse ++ rest).map (ma_tv g) = _
    simp
  have hcat2 : 2 * (F0 m pcc la ((av.reverse ++ rest).map (ma_tv g))).monitorRoom + ((rest.map (ma_tv g)).map fun v => v.category).sum ≤ 8 := by
    rw [ma_cat_eq]
    exact Nat.le_trans (Nat.le_of_eq (by show 2 * 0 + _ = _; omega)) hcat
  obtain ⟨v, vm₁, ⟨T', l2, c2, s2⟩, hW₁, X', ⟨g', mk, t, L, e1, e2, ⟨⟨v', S', h', hv, hpo, hat⟩, ⟨hz, hk⟩, hzz⟩, h1, hLf, h2, h3⟩, st⟩ := callSW X hB.1 (own := "StrandArchiveLaw") (index := idx) (y := mj.1) (bytes := mj.2.1) (maxL := mj.2.2.1) (ret := mj.2.2.2.1) (hh := hh) hown (ma_wBS hB hlink) (ma_wBS hB hstat) (ma_wBS hB hini) (ma_wBS hB hcode) ⟨by rw [hmj]; decide, by rw [hmj]; decide⟩ hK
    (g := F0 m pcc la ((av.reverse ++ rest).map (ma_tv g))) rfl (hL.1.trans hB.2.2.1.symm) (argsL := av.map (ma_tv g)) (rest := rest.map (ma_tv g)) hlen hstk hcat2 (by rw [hB.2.1]; exact hd)
    (fun vm₁ hW₁ => ⟨hcc, hss, rfl, ⟨by show va_P _ _ _ T.heap; rw [hT]; exact hw.1, fun q => by cases q⟩, by show _ ≤ T.heap.size; rw [hT]; exact Nat.le_trans hB.2.2.2.2.2.2.2.2.2.1 hw.2.1.1, hB.2.2.2.2.2.2.2.2.1.moved (U := T.setVm vm₁) hW₁, hTW.move (U' := T.setVm vm₁) hW₁ (fun q c hq hc => by
      show T.heap[q]? = some c
      rw [hT, hw.2.1.2.1 q (Array.getElem?_eq_some_iff.mp hc).1 (Nat.not_le.mpr hq)]
      exact hc)⟩)
  dsimp only [Pt.U, Pt.locs, Pt.cells, Pt.slots] at X' e1 e2 h1 h2 h3 st
  subst h1; subst h2; subst h3
  have hv' : v = v'.map (ma_tv g) := by cases hv; rfl
  subst hv'
  have hz : T.heap.size ≤ t.heap.size := hz
  have hk : ∀ q : Nat, q < T.heap.size → ¬ (g.2.2.1 ≤ q) → t.heap[q]? = T.heap[q]? := hk
  have hw' : ma_wH g false S' h' s T'.heap (locs ++ L) (c + 1) := by
    refine ⟨by rw [e1]; exact hat.1, ⟨Nat.le_trans hw.2.1.1 (by rw [e1, ← hT]; exact hz), fun q g1 g2 => ?_, fun q hq => ?_⟩, fun q => by cases q⟩
    · rw [e1, hk q (by rw [hT]; exact Nat.lt_of_lt_of_le g1 hw.2.1.1) g2, hT]
      exact hw.2.1.2.1 q g1 g2
    · rcases List.mem_append.mp hq with h | h
      · exact hw.2.1.2.2 q h
      · exact hLf q h
  obtain ⟨t2, a1, b1⟩ := hJ v' S' h' hpo T'.heap (locs ++ L) la (pcc + 3) hB hw' hL hpn T' rfl X'
  refine ⟨t2, st t2 ?_, b1⟩
  have e3 : (v'.toList ++ rest).map (ma_tv g) = (v'.map (ma_tv g)).toList ++ rest.map (ma_tv g) := by
    cases v' <;> simp
  rw [← e3]
  exact a1
end
