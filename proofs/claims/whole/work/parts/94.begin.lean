/-! THE CLAIM OUT OF ONE WALK OF THE LAW'S BODY -/
def R_law : String := "StrandArchiveLaw"
def lw_P (b : Addr) (xs : List Int32) (args : Array Value) (s : State) : Prop := args = #[.ref b] ∧ s.IntsAt b xs ∧ xs.length ≤ 3072 ∧ (Jvm.Cond.and given_1 narrow_1).before args s = true
def lw_Q (_ : Array Value) (s : State) (o : Outcome) (t : State) : Prop := o = .returned (some (.int 1)) ∧ Framed s o t [] 601024 7293034
def lw_Z (below : List Frame) (a : Array Value) (s : State) : State → Prop := fun t => ∃ o, t.status = .running ∧ Ended t below o ∧ lw_Q a s o t
def lw_At (p : Program) (s : State) (m : MethodId) (meth : Method) (c : Code) (b L : Nat) (xs : Nat → Int32) : Prop :=
  p.tables.exec = Jvm.exec ∧ c.code = code ∧ meth.sig.returnType = ret ∧ c.maxLocals = 7 ∧ s.vm.findClass R_law = some m.cls ∧ (∀ w ∈ lw_tbl, w.before #[Value.ref b] s = true) ∧ va_X b L xs s s.heap ∧ b < s.heap.size ∧ meth.locks = false ∧ (Jvm.Cond.and given_1 narrow_1).before #[Value.ref b] s = true ∧
  (Jvm.Cond.code x code maxLocals ret).before #[Value.ref b] s = true ∧ meth.name = x.name
abbrev rf_1 : Cond := .isRef (.static "java/lang/Throwable" "UNASSIGNED_STACK" "[Ljava/lang/StackTraceElement;")
abbrev rf_2 : Cond := .isRef (.static "java/lang/Throwable" "SUPPRESSED_SENTINEL" "Ljava/util/List;")
theorem ow_two : ow_nse.all (fun w => decide (w = rf_1) || decide (w = rf_2) || decide (w ∈ lw_tbl)) = true := by decide +kernel
theorem TW_start {s : State} {b : Nat} (hts : ∀ w ∈ lw_tbl, w.before #[Value.ref b] s = true) (hg : (Jvm.Cond.and given_1 narrow_1).before #[Value.ref b] s = true) : TW s.heap.size s := by
  have hs := flat_of_before _ hg
  have r1 : rf_1.before #[Value.ref b] s = true := hs _ (by decide +kernel)
  have r2 : rf_2.before #[Value.ref b] s = true := hs _ (by decide +kernel)
  refine ⟨s.heap, Nat.le_refl _, fun q c h => h, fun w hw => ?_⟩
  have hb : w.before #[Value.ref b] s = true := by
    have h := List.all_eq_true.mp ow_two w hw
    simp only [Bool.or_eq_true, decide_eq_true_eq] at h
    rcases h with (rfl | rfl) | h
    · exact r1
    · exact r2
    · exact hts w h
  rcases ow_cases hw with ho | ⟨C, n, d, rfl⟩ | ⟨C, n, d, rfl⟩
  · exact on_any ho (U := s) rfl hb
  · exact isRef_up (U := s) (hp := s.heap) (fun _ _ h => h) hb
  · exact ls_up (U := s) (hp := s.heap) (fun _ _ h => h) hb
section
variable {p : Program} {e : Env} {s : State} {m : MethodId} {below : List Frame} {meth : Method} {c : Code}
set_option maxRecDepth 30000 in
theorem whole_start (l : Launch) (hl : l.stackTraces = false) {b L : Nat} {xs : Nat → Int32} (hL : L ≤ 3072) (C0 : lw_At p s m meth c b L xs) : W p l e room_1 s m #[Value.ref b] below meth c s.heap [] 0 0 (lw_Z below #[Value.ref b] s) (entryFrame m ([Value.ref b] : List Value).toArray 7) := by
  obtain ⟨h1, h2, h3, h4, h5, h6, h7, h8, h9, h10, h11, h12⟩ := C0
  obtain ⟨D, cls, hKK⟩ := KK_start h6
  have hB : ma_B (D, b, s.heap.size, cls) (some (L, xs)) me_Law_law p s m #[Value.ref b] meth c := by
    refine ⟨h1, h2, h4, h3, h9, h12, fun w hw => ?_, h5, hKK b s.heap.size, Nat.le_refl _, fun L' xs' q => by cases q; exact ⟨h7, h8, h8⟩⟩
    rcases List.mem_cons.mp hw with rfl | hw2
    · exact h11
    · exact h6 w (ma_wdin w hw2)
  have hTW : TW s.heap.size s := TW_start h6 h10
  obtain ⟨la, e1, hLa⟩ := ma_Len (D, b, s.heap.size, cls) m [.ref 1] (n := 7) (by decide)
  have e2 : entryFrame m ([Value.ref b] : List Value).toArray 7 = F0 m 0 la [] := e1
  rw [e2]
  show W p l e (ma_rm me_Law_law) s m #[Value.ref b] below meth c s.heap [] 0 0 (lw_Z below #[Value.ref b] s) (F0 m 0 la [])
  have hR : ma_RQ (D, b, s.heap.size, cls) false me_Law_law (fun v _ _ => v = some (.int (nI 1))) s #[Value.ref b] below (lw_Z below #[Value.ref b] s) := by
    rintro t ⟨o, hr, hE, ⟨⟨v, S', h', ho, hv, -⟩, -⟩, LL, hF, hf⟩
    subst hv
    subst ho
    exact ⟨_, hr, hE, rfl, ⟨_, rfl⟩, hF.2.1, hF.2.2.weaken (fun y hy hlt => absurd hlt (Nat.not_lt.mpr (hf y hy))) (Nat.le_refl _) (Nat.le_refl _)⟩
  refine law_make hB rfl hLa (fun h H locs la' hST hw hL' => ?_)
  have J13 := law_loop (e := e) (below := below) (m := m) (meth := meth) (cd := c) (p := p) (l := l) (xs := xs) hR hL (lc_out hR hl hTW hL) (lc_block hR hl hTW hL) (fun _ => rfl) 512 0 200 11568 h (by omega) (by omega) hST (by omega) (by omega)
  have J10 : lwJ (lw_Z below #[Value.ref b] s) p e s m #[Value.ref b] below meth c l (D, b, s.heap.size, cls) L xs 10 [some (.ref 1), some (.ref 2), some (.ref 184), none, none, none, none] [.ref 201] 200 11568 GS h := by
    refine ma_runS (mc := 601024) (ms := 7293034) hR po_Law_law rfl rfl [13, 315, 372, 432] (by decide) 20 (by decide) ?_
    simp only [pc_Law_law_0, pc_Law_law_1, pc_Law_law_2, pc_Law_law_3, pc_Law_law_4, pc_Law_law_5, pc_Law_law_6, pc_Law_law_7, pc_Law_law_8, pc_Law_law_9, pc_Law_law_10, ma_go, ev_A, ev_B, ev_C, ev_D, Nat.reduceAdd, List.mem_cons, List.not_mem_nil, or_false, or_true, true_or, false_or, or_self, Nat.reduceEqDiff, reduceCtorEq, ↓reduceIte, List.length_cons, List.length_nil, Nat.reduceLT, Nat.reduceLeDiff, Nat.le_refl, implies_true, true_and, and_true, Option.toList, List.cons_append, List.nil_append]
    exact J13
  exact J10 H locs la' 19 hB ⟨hw.1, hw.2.1, fun q => by cases q⟩ hL' rfl
end
