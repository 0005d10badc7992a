/-! a throw of the class's, from 'new' on -/
/-- it threw, the tables are warmer, nothing that was there has moved; at the most k new cells of n slots -/
def thr_E (first : State) (o : Outcome) (t : State) (k n : Nat) : Prop := (∃ x, o = .threw x) ∧ first.WarmedH t.vm ∧ first.sameButNew ({ t with vm := first.vm } : State) [] k n
def ZT (s : State) (below : List Frame) : State → Prop := fun t => ∃ (x : Addr) (ce : Cell), t.status = .running ∧ Ended t below (.threw x) ∧ s.heap.size ≤ x ∧ t.heap[x]? = some ce ∧ s.vm.findClass nse = some ce.cls ∧ ce.vm = .none ∧ thr_E s (.threw x) t 1 6
theorem ow_inst : Cond.instantiable nse 6 ∈ ow_nse := by simp [ow_nse, Jvm.Bundle.ownAtoms0]
theorem nse_tail {p : Program} {l : Launch} {e : Env} {R : Room} {s : State} {m : MethodId} {args : Array Value} {below : List Frame} {meth : Method} {cd : Code} {T : State} {locs : List Loc} {pc : Nat} {la : Array Slot}
    (X : Stand p l e R s m args below meth cd T locs 0 0) (hexec : p.tables.exec = Jvm.exec) (hlocks : meth.locks = false) (htr : e.platform.stackTraces = false) (hown : s.vm.findClass "StrandArchive" = some m.cls)
    (hws : ∀ w ∈ ow_nse, w.before args s = true) (hcl : (Cond.classLink "StrandArchive" 135 nse).before args s = true) (hin : (Cond.initialized nse).before args s = true)
    (hlocs : ∀ x ∈ locs, s.heap.size ≤ x.base) (hsize : la.size = cd.maxLocals) (hout : cd.exceptionTable.isEmpty = true)
    (d0 : decode cd.code pc = .ok (.new 135, 3)) (d1 : decode cd.code (pc + 3) = .ok (.dup, 1)) (d2 : decode cd.code (pc + 3 + 1) = .ok (.invokespecial 137, 3)) (d3 : decode cd.code (pc + 3 + 1 + 3) = .ok (.athrow, 1))
    (hR : 5 < R.frames ∧ 1 ≤ R.cells ∧ 6 ≤ R.slots ∧ 100 ≤ R.locals) : ∃ t, Steps p.tables e below (T.setTop (F0 m pc la [])) t ∧ ZT s below t := by
  obtain ⟨r1, r2, r3, r4⟩ := hR
  have hsz : s.heap.size ≤ T.heap.size := X.same.2.1
  obtain ⟨vm₁, cX, kX, hfX, hkX, -, -, X₁, st1⟩ := X.newCold hexec (own := "StrandArchive") (C := nse) (index := 135) (n := 6) hown hcl (hws _ ow_inst) hin (g := F0 m pc la []) rfl d0 (by omega) (by omega)
  generalize hT : (T.setVm vm₁).pushCell { cls := cX, slots := kX.instanceTypes.map defaultValue, vm := .none } = T1 at X₁ st1
  have hcellA : T1.heap[T.heap.size]? = some (freshCell cX kX) := by rw [← hT]; exact State.heap_pushCell_size _ _
  obtain ⟨U, hsteps, hrun, hend, hW, hsame, ce, hce, K⟩ := X₁.ctorThrow0 hexec htr (own := "StrandArchive") (cls := nse) (names := ["java/lang/RuntimeException", "java/lang/Exception"]) (ic := 137) hown (by decide +kernel) (by decide +kernel)
    hws (fun y hy c hc => absurd (Array.getElem?_eq_some_iff.mp hc).1 (Nat.not_lt.mpr (hlocs y hy))) hfX hkX hcellA hsz
    (g := F0 m (pc + 3 + 1) la [.ref T.heap.size, .ref T.heap.size]) rfl hsize rfl rfl (rest := []) rfl d2 d3 (covers_of_empty hout _) (by show 2 + 3 < R.frames; omega) (by show 2 * 0 + 1 + (13 * (2 + 1) + 41) ≤ R.locals; omega)
  refine ⟨U, st1 _ ?_, T.heap.size, ce, hrun, hend, hsz, hce, K.cls, K.vm, ⟨_, rfl⟩, hW, hsame.weaken (fun y hy hlt => absurd hlt (Nat.not_lt.mpr (hlocs y hy))) (Nat.le_refl _) (Nat.le_refl _)⟩
  show Steps p.tables e below (T1.setTop (F0 m (pc + 3) la [.ref T.heap.size])) _
  jvm_step X₁.here [X₁.here.top, hexec, d1, Value.category]
  exact hsteps
/-- the locals at an entry -/
theorem ma_Len (g : ma_G) (m : MethodId) (av : List Value) {n : Nat} (hlen : (ma_en av).length ≤ n) : ∃ la, entryFrame m (av.map (ma_tv g)).toArray n = F0 m 0 la [] ∧ ma_L g n la (ma_en av ++ List.replicate (n - (ma_en av).length) none) := by
  have hl := lv_entry (av.map (ma_tv g)) (n := n) (by rw [ma_en_len]; exact hlen)
  refine ⟨_, lg_entry_eq m _ n, hl.1, hl.2.1, by simp; omega, fun i v hi => ?_⟩
  have hi2 : (ma_en av)[i]? = some (some v) := by
    by_cases hlt : i < (ma_en av).length
    · rw [List.getElem?_append_left hlt] at hi
      exact hi
    · rw [List.getElem?_append_right (by omega), List.getElem?_replicate] at hi
      split at hi <;> simp at hi
  have := ma_en_at g av 0 i v hi2
  rw [Nat.zero_add] at this
  exact hl.2.2 _ this
