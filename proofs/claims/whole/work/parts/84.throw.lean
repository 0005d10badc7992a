/-! the words of a throw, at the heap of the start -/
abbrev nse : String := "java/util/NoSuchElementException"
abbrev ow_nse : List Cond := Jvm.Bundle.ownAtoms0 "StrandArchive" 137 nse ["java/lang/RuntimeException", "java/lang/Exception"]
def ow_r : Cond → Bool
  | .isRef (.static _ _ _) => true
  | _ => false
def ow_l : Cond → Bool
  | .laysStatic _ _ _ => true
  | _ => false
theorem ow_ex : ow_nse.all (fun w => ow_r w || decide (w ∈ lw_tbl)) = true := by decide +kernel
theorem ow_wm : ow_nse.all (fun w => Cond.warmB [] w) = true := by decide +kernel
theorem ow_on : ow_nse.all (fun w => ow_r w || ow_l w || w.onTables) = true := by decide +kernel
theorem ow_cases {w : Cond} (hw : w ∈ ow_nse) : w.onTables = true ∨ (∃ C n d, w = .isRef (.static C n d)) ∨ ∃ C n d, w = .laysStatic C n d := by
  have h := List.all_eq_true.mp ow_on w hw
  rcases Bool.or_eq_true_iff.mp h with h0 | h1
  · rcases Bool.or_eq_true_iff.mp h0 with h1 | h1
    · unfold ow_r at h1
      split at h1
      · exact Or.inr (Or.inl ⟨_, _, _, rfl⟩)
      · cases h1
    · unfold ow_l at h1
      split at h1
      · exact Or.inr (Or.inr ⟨_, _, _, rfl⟩)
      · cases h1
  · exact Or.inl h1
def TW (B : Nat) (U : State) : Prop := ∃ hp : Heap, hp.size ≤ B ∧ (∀ (q : Nat) (c : Cell), hp[q]? = some c → U.heap[q]? = some c) ∧ ∀ w ∈ ow_nse, w.before #[] ({ U with heap := hp } : State) = true
theorem on_any {c : Cond} (hc : c.onTables = true) {A A' : Array Value} {U U' : State} (hv : U'.vm = U.vm) (h : c.before A U = true) : c.before A' U' = true := by
  have e := Cond.onTables_vm (A := A) (A' := A') (U := U) (U' := U') U.vm c hc
  have h1 : U.setVm U.vm = U := rfl
  have h2 : U'.setVm U.vm = U' := by rw [← hv]; rfl
  rw [h1, h2] at e
  rw [← e]
  exact h
theorem TW.move {B : Nat} {U U' : State} (h : TW B U) (hW : U.WarmedH U'.vm) (hk : ∀ (q : Nat) (c : Cell), q < B → U.heap[q]? = some c → U'.heap[q]? = some c) : TW B U' := by
  obtain ⟨hp, h1, h2, h3⟩ := h
  refine ⟨hp, h1, fun q c hq => hk q c (Nat.lt_of_lt_of_le (Array.getElem?_eq_some_iff.mp hq).1 h1) (h2 q c hq), fun w hw => ?_⟩
  have hW' : ({ U with heap := hp } : State).WarmedH U'.vm := hW
  have e1 := Cond.before_warmed hW' w (Cond.warmOk_of_B (names := []) (fun x hx => by cases hx) w (List.all_eq_true.mp ow_wm w hw)) (h3 w hw)
  rcases ow_cases hw with ho | ⟨C, n, d, rfl⟩ | ⟨C, n, d, rfl⟩
  · exact on_any ho (U := ({ U with heap := hp } : State).setVm U'.vm) rfl e1
  · exact e1
  · exact e1
theorem isRef_up {C n d : String} {A A' : Array Value} {U : State} {hp : Heap} (hk : ∀ (q : Nat) (c : Cell), hp[q]? = some c → U.heap[q]? = some c) (h : (Cond.isRef (.static C n d)).before A ({ U with heap := hp } : State) = true) : (Cond.isRef (.static C n d)).before A' U = true := by
  have ef : ({ U with heap := hp } : State).fieldNamed? C n d true = U.fieldNamed? C n d true := rfl
  simp only [Cond.before, Cond.holds, Cond.value, Term.eval, ef] at h ⊢
  cases hf : U.fieldNamed? C n d true with
  | none => simp [hf] at h
  | some q =>
    obtain ⟨q1, k, slot⟩ := q
    simp only [hf] at h ⊢
    cases hs : k.statics with
    | none => simp [hs] at h
    | some a =>
      cases hc : hp[a]? with
      | none => simp [hs, hc] at h
      | some c => simpa [hs, hc, hk a c hc] using h
theorem ls_up {C n d : String} {A A' : Array Value} {U : State} {hp : Heap} (hk : ∀ (q : Nat) (c : Cell), hp[q]? = some c → U.heap[q]? = some c) (h : (Cond.laysStatic C n d).before A ({ U with heap := hp } : State) = true) : (Cond.laysStatic C n d).before A' U = true := by
  have ef : ({ U with heap := hp } : State).fieldFound? C n d = U.fieldFound? C n d := rfl
  simp only [Cond.before, Cond.holds, Cond.value, ef] at h ⊢
  cases hc0 : U.vm.findClass C with
  | none => simp [hc0] at h
  | some c0 =>
    cases hf : U.fieldFound? C n d with
    | none => simp [hc0, hf] at h
    | some q =>
      obtain ⟨q1, k, i, f⟩ := q
      simp only [hc0, hf] at h ⊢
      cases hs : k.statics with
      | none => simp [hs] at h
      | some a =>
        cases hc : hp[a]? with
        | none => simp [hs, hc] at h
        | some c => simpa [hs, hc, hk a c hc] using h
theorem TW.use {B : Nat} {U : State} (h : TW B U) {A : Array Value} {w : Cond} (hw : w ∈ ow_nse) : w.before A U = true := by
  obtain ⟨hp, h1, h2, h3⟩ := h
  rcases ow_cases hw with ho | ⟨C, n, d, rfl⟩ | ⟨C, n, d, rfl⟩
  · exact on_any ho (U := ({ U with heap := hp } : State)) rfl (h3 w hw)
  · exact isRef_up h2 (h3 _ hw)
  · exact ls_up h2 (h3 _ hw)
theorem TW.same {B : Nat} {U U' : State} (h : TW B U) (hv : U'.vm = U.vm) (hh : U'.heap = U.heap) : TW B U' := by
  obtain ⟨hp, h1, h2, h3⟩ := h
  refine ⟨hp, h1, fun q c hq => by rw [hh]; exact h2 q c hq, fun w hw => ?_⟩
  rcases ow_cases hw with ho | ⟨C, n, d, rfl⟩ | ⟨C, n, d, rfl⟩
  · exact on_any ho (U := ({ U with heap := hp } : State)) hv (h3 w hw)
  · have e : ({ U' with heap := hp } : State).fieldNamed? C n d true = ({ U with heap := hp } : State).fieldNamed? C n d true := by
      have e1 : ({ U' with heap := hp } : State).fieldNamed? C n d true = (U.setVm U'.vm).fieldNamed? C n d true := rfl
      rw [e1, hv]
      rfl
    have := h3 _ hw
    simp only [Cond.before, Cond.holds, Cond.value, Term.eval, e] at this ⊢
    exact this
  · have e : ({ U' with heap := hp } : State).fieldFound? C n d = ({ U with heap := hp } : State).fieldFound? C n d := by
      have e1 : ({ U' with heap := hp } : State).fieldFound? C n d = (U.setVm U'.vm).fieldFound? C n d := rfl
      rw [e1, hv]
      rfl
    have e2 : ({ U' with heap := hp } : State).vm.findClass C = ({ U with heap := hp } : State).vm.findClass C := by
      show U'.vm.findClass C = U.vm.findClass C
      rw [hv]
    have := h3 _ hw
    simp only [Cond.before, Cond.holds, Cond.value, e, e2] at this ⊢
    exact this
theorem t_adm {l : Launch} {e : Env} (h : l.admits e) (hl : l.stackTraces = false) : e.platform.stackTraces = false := by
  rw [Jvm.Example.NoTraceControls.admits_follows h]
  exact hl
theorem room_le {s : State} {pl : Platform} {R R' : Room} (h : s.hasRoom pl R = true) (h1 : R'.frames ≤ R.frames) (h2 : R'.cells ≤ R.cells) (h3 : R'.slots ≤ R.slots) (h4 : R'.locals ≤ R.locals) : s.hasRoom pl R' = true := by
  simp only [State.hasRoom, Bool.and_eq_true, decide_eq_true_eq] at h ⊢
  refine ⟨?_, h.2⟩
  omega
theorem Stand_le {p : Program} {l : Launch} {e : Env} {R R' : Room} {s : State} {m : MethodId} {args : Array Value} {below : List Frame} {meth : Method} {c : Code} {T : State} {locs : List Loc} {cells slots : Nat} (X : Stand p l e R s m args below meth c T locs cells slots) (h1 : R'.frames ≤ R.frames) (h2 : R'.cells ≤ R.cells) (h3 : R'.slots ≤ R.slots) (h4 : R'.locals ≤ R.locals) : Stand p l e R' s m args below meth c T locs cells slots :=
  { X with room := room_le X.room h1 h2 h3 h4 }
