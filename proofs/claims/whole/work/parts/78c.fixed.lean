/-! the judgement once more: at one fixed state, in front of any end Z, the method's own word any w0 -/
def ma_BS (w0 : Cond) (g : ma_G) (scr : Option (Nat × (Nat → Int32))) (mi : ma_M) (p : Program) (s : State) (m : MethodId) (args : Array Value) (meth : Method) (cd : Code) : Prop :=
  p.tables.exec = Jvm.exec ∧ cd.code = mi.2.1 ∧ cd.maxLocals = mi.2.2.1 ∧ meth.sig.returnType = mi.2.2.2.1 ∧ meth.locks = false ∧ meth.name = mi.1.name ∧ (∀ w ∈ w0 :: ma_wd, w.before args s = true) ∧ s.vm.findClass mi.1.cls = some m.cls ∧ ma_KK g s ∧ g.2.2.1 ≤ s.heap.size ∧ (∀ L xs, scr = some (L, xs) → va_X g.2.1 L xs s s.heap ∧ g.2.1 < s.heap.size ∧ g.2.1 < g.2.2.1)
abbrev ma_WS (Z : State → Prop) (l : Launch) (mi : ma_M) (p : Program) (e : Env) (s : State) (m : MethodId) (args : Array Value) (below : List Frame) (meth : Method) (cd : Code) (H : Heap) (locs : List Loc) (c sl : Nat) (pc : Nat) (la : Array Slot) (st : List Value) : Prop :=
  W p l e (ma_rm mi) s m args below meth cd H locs c sl Z (F0 m pc la st)
def ma_JS (w0 : Cond) (Z : State → Prop) (p : Program) (e : Env) (s : State) (m : MethodId) (args : Array Value) (below : List Frame) (meth : Method) (cd : Code) (l : Launch) (g : ma_G) (x : Bool) (scr : Option (Nat × (Nat → Int32))) (mi : ma_M) (P : List ma_E) : ma_K := fun k ls st c sl S h =>
  ∀ (H : Heap) (locs : List Loc) (la : Array Slot) (pc : Nat),
    ma_BS w0 g scr mi p s m args meth cd → ma_wH g x S h s H locs c → ma_L g mi.2.2.1 la ls → ma_pcAt P k = some pc → ma_WS Z l mi p e s m args below meth cd H locs c sl pc la (st.map (ma_tv g))
theorem ma_JS.less {w0 : Cond} {Z : State → Prop} {p : Program} {e : Env} {s : State} {m : MethodId} {args : Array Value} {below : List Frame} {meth : Method} {cd : Code} {l : Launch} {g : ma_G} {x : Bool} {scr : Option (Nat × (Nat → Int32))} {mi : ma_M} {P : List ma_E} {k c sl : Nat} {ls ls' : List (Option Value)} {st : List Value} {S : ma_S} {h : ma_H} (hJ : ma_JS w0 Z p e s m args below meth cd l g x scr mi P k ls st c sl S h) (hl : ma_le ls ls') : ma_JS w0 Z p e s m args below meth cd l g x scr mi P k ls' st c sl S h :=
  fun H locs la pc hB hw hL hp => hJ H locs la pc hB hw (hL.less hl) hp
/-- what a return gives -/
abbrev ma_RQ (g : ma_G) (x : Bool) (mi : ma_M) (Q : ma_P) (s : State) (args : Array Value) (below : List Frame) (Z : State → Prop) : Prop := ∀ t, MQ below (ma_Qc g x mi.2.2.2.2.2.1 Q) args s mi.2.2.2.2.2.1 mi.2.2.2.2.2.2 (fun q => g.2.2.1 ≤ q) t → Z t
theorem ma_Wmono {p : Program} {l : Launch} {e : Env} {R : Room} {s : State} {m : MethodId} {args : Array Value} {below : List Frame} {meth : Method} {c : Code} {H : Heap} {locs : List Loc} {cells slots : Nat} {Q Q' : State → Prop} {f : JFrame} (h : ∀ t, Q t → Q' t) (k : W p l e R s m args below meth c H locs cells slots Q f) : W p l e R s m args below meth c H locs cells slots Q' f := by
  intro T hT X
  obtain ⟨t, a, b⟩ := k T hT X
  exact ⟨t, a, h t b⟩
theorem ma_wBS {w0 : Cond} {g : ma_G} {scr : Option (Nat × (Nat → Int32))} {mi : ma_M} {p : Program} {s : State} {m : MethodId} {args : Array Value} {meth : Method} {cd : Code} (hB : ma_BS w0 g scr mi p s m args meth cd) {w : Cond} (hw : w ∈ ma_wd) : w.before args s = true := hB.2.2.2.2.2.2.1 w (List.mem_cons_of_mem _ hw)
theorem ma_goodS {w0 : Cond} {mj : ma_M} (h : Cond.code mj.1 mj.2.1 mj.2.2.1 mj.2.2.2.1 ∈ ma_wd) : GoodIn (w0 :: ma_wd) (ma_wo mj) := by
  intro w hw
  have hw' : w ∈ ma_wd := by
    rcases List.mem_cons.mp hw with rfl | h2
    · exact h
    · exact h2
  exact ⟨List.mem_cons_of_mem _ hw', good_of_word (List.all_eq_true.mp ma_wdok w hw')⟩
theorem ma_oklS {w0 : Cond} {own : String} {idx : Nat} {y : MethodName} {nest w : Nat} {g : ma_G} {scr : Option (Nat × (Nat → Int32))} {mi : ma_M} {p : Program} {s : State} {m : MethodId} {args : Array Value} {meth : Method} {cd : Code} (ho : ma_okl own idx y nest w = true) (hB : ma_BS w0 g scr mi p s m args meth cd) : (Cond.methodLink own idx y).before args s = true ∨ ∃ host, va_Nw (.methodLinkNest own idx y host) s := by
  unfold ma_okl at ho
  split at ho
  · exact Or.inl (ma_wBS hB (ma_has_in ho))
  · split at ho
    · rename_i q hq
      obtain ⟨e1, e2, e3⟩ := of_decide_eq_true ho
      refine Or.inr ⟨q.2.2.2, ?_⟩
      rw [← e1, ← e2, ← e3]
      exact hB.2.2.2.2.2.2.2.2.1.2.2.1 q (List.mem_of_getElem? hq)
    · cases ho
def ma_SndS (ins : Instr) (aux : List Nat) : Prop := ∀ {l : Launch} {g : ma_G} {x : Bool} {scr : Option (Nat × (Nat → Int32))} {mi : ma_M} {P : List ma_E} {Q : ma_P} {K : ma_K} {k : Nat} {ls : List (Option Value)} {st : List Value} {c sl : Nat} {S : ma_S} {h : ma_H} {p : Program} {e : Env} {s : State} {m : MethodId} {args : Array Value} {below : List Frame} {meth : Method} {cd : Code} {H : Heap} {locs : List Loc} {la : Array Slot} {pc : Nat} {w0 : Cond} {Z : State → Prop},
  ma_RQ g x mi Q s args below Z → (∀ k ls st c sl S h, K k ls st c sl S h → ma_JS w0 Z p e s m args below meth cd l g x scr mi P k ls st c sl S h) → decode mi.2.1 pc = .ok (ins, ma_len ins) → (ma_thru ins = true → ma_pcAt P (k + 1) = some (pc + ma_len ins)) → ma_okx mi P k pc ins aux = true →
  ma_x x scr mi.2.2.2.2.2.1 mi.2.2.2.2.2.2 (ma_or l g x) ins aux k ls st c sl S h K Q → ma_BS w0 g scr mi p s m args meth cd → ma_wH g x S h s H locs c → ma_L g mi.2.2.1 la ls → ma_WS Z l mi p e s m args below meth cd H locs c sl pc la (st.map (ma_tv g))

theorem ma_nextS {w0 : Cond} {Z : State → Prop} {l : Launch} {g : ma_G} {x : Bool} {scr : Option (Nat × (Nat → Int32))} {mi : ma_M} {P : List ma_E} {K : ma_K} {k : Nat} {ls : List (Option Value)} {st : List Value} {c sl : Nat} {S : ma_S} {h : ma_H} {p : Program} {e : Env} {s : State} {m : MethodId} {args : Array Value} {below : List Frame} {meth : Method} {cd : Code} {H : Heap} {locs : List Loc} {la : Array Slot} {pc : Nat}
    (hK : ∀ k ls st c sl S h, K k ls st c sl S h → ma_JS w0 Z p e s m args below meth cd l g x scr mi P k ls st c sl S h) (hx : K k ls st c sl S h) (hp : ma_pcAt P k = some pc) (hB : ma_BS w0 g scr mi p s m args meth cd) (hw : ma_wH g x S h s H locs c) (hL : ma_L g mi.2.2.1 la ls) : ma_WS Z l mi p e s m args below meth cd H locs c sl pc la (st.map (ma_tv g)) :=
  hK _ _ _ _ _ _ _ hx H locs la pc hB hw hL hp
theorem ma_t_iconst (n : Int) (aux : List Nat) : ma_SndS (.iconst n) aux := by
  intro l g x scr mi P Q K k ls st c sl S h p e s m args below meth cd H locs la pc w0 Z hQ hK hd hn ho hx hB hw hL
  exact lv_iconst hB.1 hB.2.1 hd (of_decide_eq_true ho) (ma_nextS hK hx (hn rfl) hB hw hL)
theorem ma_t_bipush (n : Int) (aux : List Nat) : ma_SndS (.bipush n) aux := by
  intro l g x scr mi P Q K k ls st c sl S h p e s m args below meth cd H locs la pc w0 Z hQ hK hd hn ho hx hB hw hL
  exact lv_bipush hB.1 hB.2.1 hd (of_decide_eq_true ho) (ma_nextS hK hx (hn rfl) hB hw hL)
theorem ma_t_sipush (n : Int) (aux : List Nat) : ma_SndS (.sipush n) aux := by
  intro l g x scr mi P Q K k ls st c sl S h p e s m args below meth cd H locs la pc w0 Z hQ hK hd hn ho hx hB hw hL
  exact lv_sipush hB.1 hB.2.1 hd (of_decide_eq_true ho) (ma_nextS hK hx (hn rfl) hB hw hL)
theorem ma_t_ldc (i : Nat) (aux : List Nat) : ma_SndS (.ldc i) aux := by
  intro l g x scr mi P Q K k ls st c sl S h p e s m args below meth cd H locs la pc w0 Z hQ hK hd hn ho hx hB hw hL
  exact W.ldc hB.1 hB.2.1 hB.2.2.2.2.2.2.2.1 (ma_wBS hB (ma_has_in ho)) rfl hd (ma_nextS hK hx (hn rfl) hB hw hL)
theorem ma_t_ldcw (i : Nat) (aux : List Nat) : ma_SndS (.ldc_w i) aux := by
  intro l g x scr mi P Q K k ls st c sl S h p e s m args below meth cd H locs la pc w0 Z hQ hK hd hn ho hx hB hw hL
  exact lv_ldcw hB.1 hB.2.1 hB.2.2.2.2.2.2.2.1 (ma_wBS hB (ma_has_in ho)) hd (ma_nextS hK hx (hn rfl) hB hw hL)
theorem ma_t_ldc2 (i : Nat) (aux : List Nat) : ma_SndS (.ldc2_w i) aux := by
  intro l g x scr mi P Q K k ls st c sl S h p e s m args below meth cd H locs la pc w0 Z hQ hK hd hn ho hx hB hw hL
  exact W.ldc2 hB.1 hB.2.1 hB.2.2.2.2.2.2.2.1 (ma_wBS hB (ma_has_in ho)) rfl hd (ma_nextS hK hx (hn rfl) hB hw hL)
theorem ma_t_lconst (n : Fin 2) (aux : List Nat) : ma_SndS (.lconst n) aux := by
  intro l g x scr mi P Q K k ls st c sl S h p e s m args below meth cd H locs la pc w0 Z hQ hK hd hn ho hx hB hw hL
  exact lv_lconst hB.1 hB.2.1 hd (of_decide_eq_true ho) (ma_nextS hK hx (hn rfl) hB hw hL)
theorem ma_t_iload (i : Nat) (aux : List Nat) : ma_SndS (.iload i) aux := by
  intro l g x scr mi P Q K k ls st c sl S h p e s m args below meth cd H locs la pc w0 Z hQ hK hd hn ho hx hB hw hL
  obtain ⟨z, h1, hx⟩ := ma_gi_inv hx
  exact lv_iload hB.1 hB.2.1 hd (hL.2.2.2 _ _ h1) (ma_nextS hK hx (hn rfl) hB hw hL)
theorem ma_t_iload_n (i : Fin 4) (aux : List Nat) : ma_SndS (.iload_n i) aux := by
  intro l g x scr mi P Q K k ls st c sl S h p e s m args below meth cd H locs la pc w0 Z hQ hK hd hn ho hx hB hw hL
  obtain ⟨z, h1, hx⟩ := ma_gi_inv hx
  exact lv_iload_n hB.1 hB.2.1 hd rfl (hL.2.2.2 _ _ h1) (ma_nextS hK hx (hn rfl) hB hw hL)
theorem ma_t_lload (i : Nat) (aux : List Nat) : ma_SndS (.lload i) aux := by
  intro l g x scr mi P Q K k ls st c sl S h p e s m args below meth cd H locs la pc w0 Z hQ hK hd hn ho hx hB hw hL
  obtain ⟨z, h1, hx⟩ := ma_gl_inv hx
  exact lv_lload hB.1 hB.2.1 hd (hL.2.2.2 _ _ h1) (ma_nextS hK hx (hn rfl) hB hw hL)
theorem ma_t_lload_n (i : Fin 4) (aux : List Nat) : ma_SndS (.lload_n i) aux := by
  intro l g x scr mi P Q K k ls st c sl S h p e s m args below meth cd H locs la pc w0 Z hQ hK hd hn ho hx hB hw hL
  obtain ⟨z, h1, hx⟩ := ma_gl_inv hx
  exact lv_lload_n hB.1 hB.2.1 hd rfl (hL.2.2.2 _ _ h1) (ma_nextS hK hx (hn rfl) hB hw hL)
theorem ma_t_aload (i : Nat) (aux : List Nat) : ma_SndS (.aload i) aux := by
  intro l g x scr mi P Q K k ls st c sl S h p e s m args below meth cd H locs la pc w0 Z hQ hK hd hn ho hx hB hw hL
  obtain ⟨z, h1, hx⟩ := ma_gr_inv hx
  have h2 := hL.2.2.2 _ _ h1
  have h3 := ma_nextS (below := below) (e := e) hK hx (hn rfl) hB hw hL
  have e0 : ma_tv g (.ref z) = va_rf (ma_ro g z) := rfl
  rw [List.map_cons, e0] at h3
  rw [e0] at h2
  cases hz : ma_ro g z with
  | none =>
    rw [hz] at h2 h3
    exact lv_aloadN hB.1 hB.2.1 hd h2 h3
  | some a =>
    rw [hz] at h2 h3
    exact lv_aload hB.1 hB.2.1 hd h2 h3
theorem ma_t_aload_n (i : Fin 4) (aux : List Nat) : ma_SndS (.aload_n i) aux := by
  intro l g x scr mi P Q K k ls st c sl S h p e s m args below meth cd H locs la pc w0 Z hQ hK hd hn ho hx hB hw hL
  obtain ⟨z, h1, hx⟩ := ma_gr_inv hx
  have h2 := hL.2.2.2 _ _ h1
  have h3 := ma_nextS (below := below) (e := e) hK hx (hn rfl) hB hw hL
  have e0 : ma_tv g (.ref z) = va_rf (ma_ro g z) := rfl
  rw [List.map_cons, e0] at h3
  rw [e0] at h2
  cases hz : ma_ro g z with
  | none =>
    rw [hz] at h2 h3
    exact lv_aload_nN hB.1 hB.2.1 hd rfl h2 h3
  | some a =>
    rw [hz] at h2 h3
    exact lv_aload_n hB.1 hB.2.1 hd rfl h2 h3
theorem ma_t_istore (i : Nat) (aux : List Nat) : ma_SndS (.istore i) aux := by
  intro l g x scr mi P Q K k ls st c sl S h p e s m args below meth cd H locs la pc w0 Z hQ hK hd hn ho hx hB hw hL
  obtain ⟨z, st', rfl, hi, hx⟩ := ma_i1_inv hx
  exact lv_istore hB.1 hB.2.1 hd hL.has (by rw [← hL.2.2.1]; exact hi) rfl (fun la' h' => ma_nextS hK hx (hn rfl) hB hw (hL.set1 (v := .int z) h'))
theorem ma_t_istore_n (i : Fin 4) (aux : List Nat) : ma_SndS (.istore_n i) aux := by
  intro l g x scr mi P Q K k ls st c sl S h p e s m args below meth cd H locs la pc w0 Z hQ hK hd hn ho hx hB hw hL
  obtain ⟨z, st', rfl, hi, hx⟩ := ma_i1_inv hx
  exact lv_istore_n hB.1 hB.2.1 hd rfl hL.has (by rw [← hL.2.2.1]; exact hi) rfl (fun la' h' => ma_nextS hK hx (hn rfl) hB hw (hL.set1 (v := .int z) h'))
theorem ma_t_lstore (i : Nat) (aux : List Nat) : ma_SndS (.lstore i) aux := by
  intro l g x scr mi P Q K k ls st c sl S h p e s m args below meth cd H locs la pc w0 Z hQ hK hd hn ho hx hB hw hL
  obtain ⟨z, st', rfl, hi, hx⟩ := ma_l1_inv hx
  exact lv_lstore hB.1 hB.2.1 hd hL.has (by rw [← hL.2.2.1]; exact hi) rfl (fun la' h' => ma_nextS hK hx (hn rfl) hB hw (hL.set2 (v := .long z) h'))
theorem ma_t_lstore_n (i : Fin 4) (aux : List Nat) : ma_SndS (.lstore_n i) aux := by
  intro l g x scr mi P Q K k ls st c sl S h p e s m args below meth cd H locs la pc w0 Z hQ hK hd hn ho hx hB hw hL
  obtain ⟨z, st', rfl, hi, hx⟩ := ma_l1_inv hx
  exact lv_lstore_n hB.1 hB.2.1 hd rfl hL.has (by rw [← hL.2.2.1]; exact hi) rfl (fun la' h' => ma_nextS hK hx (hn rfl) hB hw (hL.set2 (v := .long z) h'))
theorem ma_t_astore (i : Nat) (aux : List Nat) : ma_SndS (.astore i) aux := by
  intro l g x scr mi P Q K k ls st c sl S h p e s m args below meth cd H locs la pc w0 Z hQ hK hd hn ho hx hB hw hL
  obtain ⟨z, st', rfl, hi, hx⟩ := ma_r1_inv hx
  have e0 : ma_tv g (.ref z) = va_rf (ma_ro g z) := rfl
  have hi' : i < mi.2.2.1 := by rw [← hL.2.2.1]; exact hi
  rw [List.map_cons, e0]
  have h3 : ∀ la' : Array Slot, lv_has la' mi.2.2.1 ((i, va_rf (ma_ro g z)) :: (ma_kn g 0 ls).filter (fun q => !(q.1 == i) && !(q.1 + 1 == i && q.2.category == 2))) → _ := fun la' h' => ma_nextS (below := below) (e := e) hK hx (hn rfl) hB hw (hL.set1 (v := .ref z) h')
  cases hz : ma_ro g z with
  | none =>
    rw [hz] at h3
    exact lv_astoreN hB.1 hB.2.1 hd hL.has hi' rfl h3
  | some a =>
    rw [hz] at h3
    exact lv_astore hB.1 hB.2.1 hd hL.has hi' rfl h3
theorem ma_t_astore_n (i : Fin 4) (aux : List Nat) : ma_SndS (.astore_n i) aux := by
  intro l g x scr mi P Q K k ls st c sl S h p e s m args below meth cd H locs la pc w0 Z hQ hK hd hn ho hx hB hw hL
  obtain ⟨z, st', rfl, hi, hx⟩ := ma_r1_inv hx
  have e0 : ma_tv g (.ref z) = va_rf (ma_ro g z) := rfl
  have hi' : (i : Nat) < mi.2.2.1 := by rw [← hL.2.2.1]; exact hi
  rw [List.map_cons, e0]
  have h3 : ∀ la' : Array Slot, lv_has la' mi.2.2.1 (((i : Nat), va_rf (ma_ro g z)) :: (ma_kn g 0 ls).filter (fun q => !(q.1 == (i : Nat)) && !(q.1 + 1 == (i : Nat) && q.2.category == 2))) → _ := fun la' h' => ma_nextS (below := below) (e := e) hK hx (hn rfl) hB hw (hL.set1 (v := .ref z) h')
  cases hz : ma_ro g z with
  | none =>
    rw [hz] at h3
    exact lv_astore_nN hB.1 hB.2.1 hd rfl hL.has hi' rfl h3
  | some a =>
    rw [hz] at h3
    exact lv_astore_n hB.1 hB.2.1 hd rfl hL.has hi' rfl h3
theorem ma_t_iinc (i : Nat) (n : Int) (aux : List Nat) : ma_SndS (.iinc i n) aux := by
  intro l g x scr mi P Q K k ls st c sl S h p e s m args below meth cd H locs la pc w0 Z hQ hK hd hn ho hx hB hw hL
  obtain ⟨z, h1, hx⟩ := ma_gi_inv hx
  have hm : (i, Value.int z) ∈ ma_kn g 0 ls := (ma_kn_mem g ls 0 _).mpr ⟨i, .int z, h1, by simp [ma_tv]⟩
  obtain ⟨j, hj⟩ := List.getElem?_of_mem hm
  have hi : i < mi.2.2.1 := by rw [← hL.2.2.1]; exact (List.getElem?_eq_some_iff.mp h1).1
  exact lv_iinc hB.1 hB.2.1 hd hL.has hj (by rw [of_decide_eq_true ho]) hi rfl (fun la' h' => ma_nextS hK hx (hn rfl) hB hw (hL.set1 (v := .int (z + ma_k aux)) h'))
theorem ma_t_iadd (aux : List Nat) : ma_SndS .iadd aux := by
  intro l g x scr mi P Q K k ls st c sl S h p e s m args below meth cd H locs la pc w0 Z hQ hK hd hn ho hx hB hw hL
  obtain ⟨z, y, st', rfl, hx⟩ := ma_ii_inv hx
  exact lv_iadd hB.1 hB.2.1 hd (ma_nextS hK hx (hn rfl) hB hw hL)
theorem ma_t_isub (aux : List Nat) : ma_SndS .isub aux := by
  intro l g x scr mi P Q K k ls st c sl S h p e s m args below meth cd H locs la pc w0 Z hQ hK hd hn ho hx hB hw hL
  obtain ⟨z, y, st', rfl, hx⟩ := ma_ii_inv hx
  exact lv_isub hB.1 hB.2.1 hd (ma_nextS hK hx (hn rfl) hB hw hL)
theorem ma_t_imul (aux : List Nat) : ma_SndS .imul aux := by
  intro l g x scr mi P Q K k ls st c sl S h p e s m args below meth cd H locs la pc w0 Z hQ hK hd hn ho hx hB hw hL
  obtain ⟨z, y, st', rfl, hx⟩ := ma_ii_inv hx
  exact lv_imul hB.1 hB.2.1 hd (ma_nextS hK hx (hn rfl) hB hw hL)
theorem ma_t_iand (aux : List Nat) : ma_SndS .iand aux := by
  intro l g x scr mi P Q K k ls st c sl S h p e s m args below meth cd H locs la pc w0 Z hQ hK hd hn ho hx hB hw hL
  obtain ⟨z, y, st', rfl, hx⟩ := ma_ii_inv hx
  exact lv_iand hB.1 hB.2.1 hd (ma_nextS hK hx (hn rfl) hB hw hL)
theorem ma_t_ior (aux : List Nat) : ma_SndS .ior aux := by
  intro l g x scr mi P Q K k ls st c sl S h p e s m args below meth cd H locs la pc w0 Z hQ hK hd hn ho hx hB hw hL
  obtain ⟨z, y, st', rfl, hx⟩ := ma_ii_inv hx
  exact lv_ior hB.1 hB.2.1 hd (ma_nextS hK hx (hn rfl) hB hw hL)
theorem ma_t_ixor (aux : List Nat) : ma_SndS .ixor aux := by
  intro l g x scr mi P Q K k ls st c sl S h p e s m args below meth cd H locs la pc w0 Z hQ hK hd hn ho hx hB hw hL
  obtain ⟨z, y, st', rfl, hx⟩ := ma_ii_inv hx
  exact lv_ixor hB.1 hB.2.1 hd (ma_nextS hK hx (hn rfl) hB hw hL)
theorem ma_t_idiv (aux : List Nat) : ma_SndS .idiv aux := by
  intro l g x scr mi P Q K k ls st c sl S h p e s m args below meth cd H locs la pc w0 Z hQ hK hd hn ho hx hB hw hL
  obtain ⟨z, y, st', rfl, hne, hx⟩ := ma_ii_inv hx
  exact lv_idiv hB.1 hB.2.1 hd hne (ma_nextS hK hx (hn rfl) hB hw hL)
theorem ma_t_irem (aux : List Nat) : ma_SndS .irem aux := by
  intro l g x scr mi P Q K k ls st c sl S h p e s m args below meth cd H locs la pc w0 Z hQ hK hd hn ho hx hB hw hL
  obtain ⟨z, y, st', rfl, hne, hx⟩ := ma_ii_inv hx
  exact lv_irem hB.1 hB.2.1 hd hne (ma_nextS hK hx (hn rfl) hB hw hL)
theorem ma_t_ishl (aux : List Nat) : ma_SndS .ishl aux := by
  intro l g x scr mi P Q K k ls st c sl S h p e s m args below meth cd H locs la pc w0 Z hQ hK hd hn ho hx hB hw hL
  obtain ⟨z, y, st', rfl, hx⟩ := ma_ii_inv hx
  exact lv_ishl hB.1 hB.2.1 hd (ma_nextS hK hx (hn rfl) hB hw hL)
theorem ma_t_ishr (aux : List Nat) : ma_SndS .ishr aux := by
  intro l g x scr mi P Q K k ls st c sl S h p e s m args below meth cd H locs la pc w0 Z hQ hK hd hn ho hx hB hw hL
  obtain ⟨z, y, st', rfl, hx⟩ := ma_ii_inv hx
  exact lv_ishr hB.1 hB.2.1 hd (ma_nextS hK hx (hn rfl) hB hw hL)
theorem ma_t_iushr (aux : List Nat) : ma_SndS .iushr aux := by
  intro l g x scr mi P Q K k ls st c sl S h p e s m args below meth cd H locs la pc w0 Z hQ hK hd hn ho hx hB hw hL
  obtain ⟨z, y, st', rfl, hx⟩ := ma_ii_inv hx
  exact lv_iushr hB.1 hB.2.1 hd rfl (ma_nextS hK hx (hn rfl) hB hw hL)
theorem ma_t_ladd (aux : List Nat) : ma_SndS .ladd aux := by
  intro l g x scr mi P Q K k ls st c sl S h p e s m args below meth cd H locs la pc w0 Z hQ hK hd hn ho hx hB hw hL
  obtain ⟨z, y, st', rfl, hx⟩ := ma_ll_inv hx
  exact lv_ladd hB.1 hB.2.1 hd (ma_nextS hK hx (hn rfl) hB hw hL)
theorem ma_t_lmul (aux : List Nat) : ma_SndS .lmul aux := by
  intro l g x scr mi P Q K k ls st c sl S h p e s m args below meth cd H locs la pc w0 Z hQ hK hd hn ho hx hB hw hL
  obtain ⟨z, y, st', rfl, hx⟩ := ma_ll_inv hx
  exact lv_lmul hB.1 hB.2.1 hd (ma_nextS hK hx (hn rfl) hB hw hL)
theorem ma_t_land (aux : List Nat) : ma_SndS .land aux := by
  intro l g x scr mi P Q K k ls st c sl S h p e s m args below meth cd H locs la pc w0 Z hQ hK hd hn ho hx hB hw hL
  obtain ⟨z, y, st', rfl, hx⟩ := ma_ll_inv hx
  exact lv_land hB.1 hB.2.1 hd (ma_nextS hK hx (hn rfl) hB hw hL)
theorem ma_t_lor (aux : List Nat) : ma_SndS .lor aux := by
  intro l g x scr mi P Q K k ls st c sl S h p e s m args below meth cd H locs la pc w0 Z hQ hK hd hn ho hx hB hw hL
  obtain ⟨z, y, st', rfl, hx⟩ := ma_ll_inv hx
  exact lv_lor hB.1 hB.2.1 hd (ma_nextS hK hx (hn rfl) hB hw hL)
theorem ma_t_ldiv (aux : List Nat) : ma_SndS .ldiv aux := by
  intro l g x scr mi P Q K k ls st c sl S h p e s m args below meth cd H locs la pc w0 Z hQ hK hd hn ho hx hB hw hL
  obtain ⟨z, y, st', rfl, hne, hx⟩ := ma_ll_inv hx
  exact lv_ldiv hB.1 hB.2.1 hd hne (ma_nextS hK hx (hn rfl) hB hw hL)
theorem ma_t_lrem (aux : List Nat) : ma_SndS .lrem aux := by
  intro l g x scr mi P Q K k ls st c sl S h p e s m args below meth cd H locs la pc w0 Z hQ hK hd hn ho hx hB hw hL
  obtain ⟨z, y, st', rfl, hne, hx⟩ := ma_ll_inv hx
  exact lv_lrem hB.1 hB.2.1 hd hne (ma_nextS hK hx (hn rfl) hB hw hL)
theorem ma_t_lcmp (aux : List Nat) : ma_SndS .lcmp aux := by
  intro l g x scr mi P Q K k ls st c sl S h p e s m args below meth cd H locs la pc w0 Z hQ hK hd hn ho hx hB hw hL
  obtain ⟨z, y, st', rfl, hx⟩ := ma_ll_inv hx
  exact W.lcmp hB.1 hB.2.1 hd (ma_nextS hK hx (hn rfl) hB hw hL)
theorem ma_t_lshl (aux : List Nat) : ma_SndS .lshl aux := by
  intro l g x scr mi P Q K k ls st c sl S h p e s m args below meth cd H locs la pc w0 Z hQ hK hd hn ho hx hB hw hL
  obtain ⟨z, y, st', rfl, hx⟩ := ma_li_inv hx
  exact lv_lshl hB.1 hB.2.1 hd rfl (ma_nextS hK hx (hn rfl) hB hw hL)
theorem ma_t_lushr (aux : List Nat) : ma_SndS .lushr aux := by
  intro l g x scr mi P Q K k ls st c sl S h p e s m args below meth cd H locs la pc w0 Z hQ hK hd hn ho hx hB hw hL
  obtain ⟨z, y, st', rfl, hx⟩ := ma_li_inv hx
  exact lv_lushr hB.1 hB.2.1 hd rfl (ma_nextS hK hx (hn rfl) hB hw hL)
theorem ma_t_i2l (aux : List Nat) : ma_SndS .i2l aux := by
  intro l g x scr mi P Q K k ls st c sl S h p e s m args below meth cd H locs la pc w0 Z hQ hK hd hn ho hx hB hw hL
  obtain ⟨z, st', rfl, hx⟩ := ma_i1_inv hx
  exact lv_i2l hB.1 hB.2.1 hd rfl (ma_nextS hK hx (hn rfl) hB hw hL)
theorem ma_t_l2i (aux : List Nat) : ma_SndS .l2i aux := by
  intro l g x scr mi P Q K k ls st c sl S h p e s m args below meth cd H locs la pc w0 Z hQ hK hd hn ho hx hB hw hL
  obtain ⟨z, st', rfl, hx⟩ := ma_l1_inv hx
  exact lv_l2i hB.1 hB.2.1 hd rfl (ma_nextS hK hx (hn rfl) hB hw hL)
theorem ma_t_i2b (aux : List Nat) : ma_SndS .i2b aux := by
  intro l g x scr mi P Q K k ls st c sl S h p e s m args below meth cd H locs la pc w0 Z hQ hK hd hn ho hx hB hw hL
  obtain ⟨z, st', rfl, hx⟩ := ma_i1_inv hx
  exact lv_i2b hB.1 hB.2.1 hd rfl (ma_nextS hK hx (hn rfl) hB hw hL)
theorem ma_t_goto (off : Int) (aux : List Nat) : ma_SndS (.goto off) aux := by
  intro l g x scr mi P Q K k ls st c sl S h p e s m args below meth cd H locs la pc w0 Z hQ hK hd hn ho hx hB hw hL
  obtain ⟨q, h1, h2⟩ := ma_tgt_inv ho
  exact lv_goto hB.1 hB.2.1 hd h2 (ma_nextS hK hx h1 hB hw hL)
theorem ma_t_icmp (cnd : ClassFile.Cond) (off : Int) (aux : List Nat) : ma_SndS (.if_icmp cnd off) aux := by
  intro l g x scr mi P Q K k ls st c sl S h p e s m args below meth cd H locs la pc w0 Z hQ hK hd hn ho hx hB hw hL
  obtain ⟨q, h1, h2⟩ := ma_tgt_inv ho
  obtain ⟨z, y, st', rfl, hx⟩ := ma_ii_inv hx
  cases cnd
  · exact lv_icmp_eq hB.1 hB.2.1 hd h2 (fun q => ma_nextS hK (hx.1 q) h1 hB hw hL) (fun q => ma_nextS hK (hx.2 q) (hn rfl) hB hw hL)
  · exact lv_icmp_ne hB.1 hB.2.1 hd h2 (fun q => ma_nextS hK (hx.1 q) h1 hB hw hL) (fun q => ma_nextS hK (hx.2 q) (hn rfl) hB hw hL)
  · exact lv_icmp_lt hB.1 hB.2.1 hd h2 (fun q => ma_nextS hK (hx.1 q) h1 hB hw hL) (fun q => ma_nextS hK (hx.2 q) (hn rfl) hB hw hL)
  · exact lv_icmp_ge hB.1 hB.2.1 hd h2 (fun q => ma_nextS hK (hx.1 q) h1 hB hw hL) (fun q => ma_nextS hK (hx.2 q) (hn rfl) hB hw hL)
  · exact lv_icmp_gt hB.1 hB.2.1 hd h2 (fun q => ma_nextS hK (hx.1 q) h1 hB hw hL) (fun q => ma_nextS hK (hx.2 q) (hn rfl) hB hw hL)
  · exact lv_icmp_le hB.1 hB.2.1 hd h2 (fun q => ma_nextS hK (hx.1 q) h1 hB hw hL) (fun q => ma_nextS hK (hx.2 q) (hn rfl) hB hw hL)
theorem ma_t_if (cnd : ClassFile.Cond) (off : Int) (aux : List Nat) : ma_SndS (.ifCond cnd off) aux := by
  intro l g x scr mi P Q K k ls st c sl S h p e s m args below meth cd H locs la pc w0 Z hQ hK hd hn ho hx hB hw hL
  obtain ⟨q, h1, h2⟩ := ma_tgt_inv ho
  obtain ⟨z, st', rfl, hx⟩ := ma_i1_inv hx
  cases cnd
  · exact lv_if_eq hB.1 hB.2.1 hd h2 (fun q => ma_nextS hK (hx.1 q) h1 hB hw hL) (fun q => ma_nextS hK (hx.2 q) (hn rfl) hB hw hL)
  · exact lv_if_ne hB.1 hB.2.1 hd h2 (fun q => ma_nextS hK (hx.1 q) h1 hB hw hL) (fun q => ma_nextS hK (hx.2 q) (hn rfl) hB hw hL)
  · exact lv_if_lt hB.1 hB.2.1 hd h2 (fun q => ma_nextS hK (hx.1 q) h1 hB hw hL) (fun q => ma_nextS hK (hx.2 q) (hn rfl) hB hw hL)
  · exact lv_if_ge hB.1 hB.2.1 hd h2 (fun q => ma_nextS hK (hx.1 q) h1 hB hw hL) (fun q => ma_nextS hK (hx.2 q) (hn rfl) hB hw hL)
  · exact lv_if_gt hB.1 hB.2.1 hd h2 (fun q => ma_nextS hK (hx.1 q) h1 hB hw hL) (fun q => ma_nextS hK (hx.2 q) (hn rfl) hB hw hL)
  · exact lv_if_le hB.1 hB.2.1 hd h2 (fun q => ma_nextS hK (hx.1 q) h1 hB hw hL) (fun q => ma_nextS hK (hx.2 q) (hn rfl) hB hw hL)
theorem ma_t_dup (aux : List Nat) : ma_SndS .dup aux := by
  intro l g x scr mi P Q K k ls st c sl S h p e s m args below meth cd H locs la pc w0 Z hQ hK hd hn ho hx hB hw hL
  match st, hx with
  | v :: st', hx => exact lv_dup hB.1 hB.2.1 hd (by rw [ma_tv_cat]; exact hx.1) (ma_nextS hK hx.2 (hn rfl) hB hw hL)
theorem ma_t_dup2 (aux : List Nat) : ma_SndS .dup2 aux := by
  intro l g x scr mi P Q K k ls st c sl S h p e s m args below meth cd H locs la pc w0 Z hQ hK hd hn ho hx hB hw hL
  match st, hx with
  | v :: w :: st', hx => exact lv_dup2_11 hB.1 hB.2.1 hd (by rw [ma_tv_cat]; exact hx.1) (by rw [ma_tv_cat]; exact hx.2.1) (ma_nextS hK hx.2.2 (hn rfl) hB hw hL)
theorem ma_t_pop (aux : List Nat) : ma_SndS .pop aux := by
  intro l g x scr mi P Q K k ls st c sl S h p e s m args below meth cd H locs la pc w0 Z hQ hK hd hn ho hx hB hw hL
  match st, hx with
  | v :: st', hx => exact lv_pop hB.1 hB.2.1 hd (by rw [ma_tv_cat]; exact hx.1) (ma_nextS hK hx.2 (hn rfl) hB hw hL)
theorem ma_t_getfield (i : Nat) (aux : List Nat) : ma_SndS (.getfield i) aux := by
  intro l g x scr mi P Q K k ls st c sl S h p e s m args below meth cd H locs la pc w0 Z hQ hK hd hn ho hx hB hw hL
  obtain ⟨a, st', rfl, hsh, hx⟩ := ma_r1_inv hx
  obtain ⟨j, rfl, hS⟩ := ma_sh_some hsh
  obtain ⟨C, T, N, fty, hc, hk, hf, htc, hw2, hT1, hlink⟩ := ma_okf_inv ho
  obtain ⟨hk1, hk2, hk3, hk4⟩ := ma_clok hc
  have he : (ma_ws g S h)[j]? = some (g.2.2.1 + j, .inr (ma_a aux 0, (ma_ty (ma_a aux 0)).mapIdx (fun k ty => ma_fv g h (j + 2) k ty))) := by rw [ma_ws_at, hS]; rfl
  have h3 := ma_nextS (below := below) (e := e) hK hx (hn rfl) hB hw hL
  rw [List.map_cons, ma_pv_fv g h _ _ htc hw2] at h3
  obtain ⟨-, h5⟩ | ⟨-, host, h5⟩ := hlink
  · exact va_get (T := T) (ref := C) hB.1 hB.2.1 hB.2.2.2.2.2.2.1 (fun w hw => List.mem_cons_of_mem _ (hk4 w hw)) hB.2.2.2.2.2.2.2.1 hB.2.2.2.2.2.2.2.2.1.1 hw.1 j he hc _ hk (ma_wBS hB h5) (fun y hy => by rw [hT1] at hy; exact hy) (ma_fs_at g h _ _ _ hf) hd h3
  · exact va_getN (T := T) (ref := C) hB.1 hB.2.1 hB.2.2.2.2.2.2.1 (fun w hw => List.mem_cons_of_mem _ (hk4 w hw)) hB.2.2.2.2.2.2.2.1 hB.2.2.2.2.2.2.2.2.1.1 hw.1 j he hc _ hk (va_Nw.use rfl (hB.2.2.2.2.2.2.2.2.1.2.1 _ h5)) (fun y hy => by rw [hT1] at hy; exact hy) (ma_fs_at g h _ _ _ hf) hd h3
theorem ma_t_putfield (i : Nat) (aux : List Nat) : ma_SndS (.putfield i) aux := by
  intro l g x scr mi P Q K k ls st c sl S h p e s m args below meth cd H locs la pc w0 Z hQ hK hd hn ho hx hB hw hL
  match st, hx with
  | v :: st1, hx =>
    obtain ⟨hvc, hx⟩ := hx
    obtain ⟨a, st', rfl, hsh, hx⟩ := ma_r1_inv hx
    obtain ⟨j, rfl, hS⟩ := ma_sh_some hsh
    simp only [ma_okx, Bool.and_eq_true] at ho
    obtain ⟨C, T, N, fty, hc, hk, hf, htc, hw2, hT1, hlink⟩ := ma_okf_inv ho.1
    obtain ⟨hk1, hk2, hk3, hk4⟩ := ma_clok hc
    have hvt : ma_vc v = ma_tc fty := by rw [htc]; exact hvc
    have ht2 : ma_tc fty ≤ 2 := by rw [htc]; exact hw2
    have hd2 : parseFieldDescriptor (T (ma_a aux 1)).2.2.1 = some fty := by rw [hk2 _ hk]; exact hf
    obtain ⟨hnar, hfit⟩ := ma_tv_fits g hvt ht2
    have he : (ma_ws g S h)[j]? = some (g.2.2.1 + j, .inr (ma_a aux 0, (ma_ty (ma_a aux 0)).mapIdx (fun k ty => ma_fv g h (j + 2) k ty))) := by rw [ma_ws_at, hS]; rfl
    have hlen : ma_a aux 1 < ((ma_ty (ma_a aux 0)).mapIdx (fun k ty => ma_fv g h (j + 2) k ty)).length := by simp [hk1]; exact hk
    have hty0 : ∀ k, k < N → parseFieldDescriptor (T k).2.2.1 = some ((ma_ty (ma_a aux 0)).getD k .int) := by
      intro k hk
      rw [hk2 k hk, List.getD_eq_getElem?_getD]
      have : k < (ma_ty (ma_a aux 0)).length := by rw [hk1]; exact hk
      rw [List.getElem?_eq_getElem this]
      rfl
    have kk : ∀ (H1 : Heap) (locs1 : List Loc), va_P g.1 ma_cl ((ma_ws g S h).set j (g.2.2.1 + j, .inr (ma_a aux 0, ((ma_ty (ma_a aux 0)).mapIdx (fun k ty => ma_fv g h (j + 2) k ty)).set (ma_a aux 1) (ma_tv g v)))) H1 → va_D (fun q => g.2.2.1 ≤ q) ((ma_ws g S h).set j (g.2.2.1 + j, .inr (ma_a aux 0, ((ma_ty (ma_a aux 0)).mapIdx (fun k ty => ma_fv g h (j + 2) k ty)).set (ma_a aux 1) (ma_tv g v)))) → va_S (fun q => g.2.2.1 ≤ q) H H1 locs1 → ma_WS Z l mi p e s m args below meth cd H1 locs1 c sl (pc + 3) la (st'.map (ma_tv g)) := by
      intro H1 locs1 hP1 hD1 hS1
      rw [ma_ws_put g S h j _ _ hS hf hvt ht2] at hP1
      exact ma_Wsz fun hz => ma_nextS hK hx (hn rfl) hB (hw.step hS1 hP1 hz) hL
    obtain ⟨h6, h5⟩ | ⟨h6, host, h5⟩ := hlink
    · by_cases hfin : (T (ma_a aux 1)).2.2.2 = true
      · have ho2 := ho.2
        simp only [ma_okp, hc, hfin, if_true, Bool.and_eq_true, decide_eq_true_eq] at ho2
        exact va_putF (T := T) (ref := C) hB.1 hB.2.1 hB.2.2.2.2.2.2.1 (fun w hw => List.mem_cons_of_mem _ (hk4 w hw)) _ hty0 hk3 hB.2.2.2.2.2.2.2.1 hB.2.2.2.2.2.2.2.2.1.1 hw.1 (ma_D g S h) hw.rfS j he hc _ hk (ma_wBS hB h5) (fun y hy => by rw [hT1] at hy; exact hy) hfin (by rw [hB.2.2.2.2.2.1]; exact ho2.1.1) ho2.1.2 hd2 hnar hfit hlen hd kk
      · exact va_put (T := T) (ref := C) hB.1 hB.2.1 hB.2.2.2.2.2.2.1 (fun w hw => List.mem_cons_of_mem _ (hk4 w hw)) _ hty0 hk3 hB.2.2.2.2.2.2.2.1 hB.2.2.2.2.2.2.2.2.1.1 hw.1 (ma_D g S h) hw.rfS j he hc _ hk (ma_wBS hB h5) (fun y hy => by rw [hT1] at hy; exact hy) (by simpa using hfin) hd2 hnar hfit hlen hd kk
    · have hfin : ¬ (T (ma_a aux 1)).2.2.2 = true := by
        intro hfin
        have ho2 := ho.2
        simp only [ma_okp, hc, hfin, if_true, Bool.and_eq_true, decide_eq_true_eq] at ho2
        exact h6 ho2.2
      exact va_putN (T := T) (ref := C) hB.1 hB.2.1 hB.2.2.2.2.2.2.1 (fun w hw => List.mem_cons_of_mem _ (hk4 w hw)) _ hty0 hk3 hB.2.2.2.2.2.2.2.1 hB.2.2.2.2.2.2.2.2.1.1 hw.1 (ma_D g S h) hw.rfS j he hc _ hk (va_Nw.use rfl (hB.2.2.2.2.2.2.2.2.1.2.1 _ h5)) (fun y hy => by rw [hT1] at hy; exact hy) (by simpa using hfin) hd2 hnar hfit hlen hd kk

theorem ma_t_iaload (aux : List Nat) : ma_SndS .iaload aux := by
  intro l g x scr mi P Q K k ls st c sl S h p e s m args below meth cd H locs la pc w0 Z hQ hK hd hn ho hx hB hw hL
  obtain ⟨i, st1, rfl, hx⟩ := ma_i1_inv hx
  obtain ⟨a, st2, rfl, hx⟩ := ma_r1_inv hx
  have hKK := hB.2.2.2.2.2.2.2.2.1.1
  match aux, hx with
  | [], hx =>
    obtain ⟨j, n, rfl, hS, hi⟩ := ma_in_inv hx.1
    exact va_iald hB.1 hB.2.1 hKK hw.1 j 0 (ma_ws_arr g S h j n _ hS) rfl hi hd (ma_nextS hK hx.2 (hn rfl) hB hw hL)
  | _ :: _, hx =>
    match scr, hx, hB, hK with
    | some (L, xs), hx, hB, hK =>
      obtain ⟨rfl, hi, hx⟩ := hx
      obtain ⟨hX, h1, h2⟩ := hB.2.2.2.2.2.2.2.2.2.2 L xs rfl
      exact va_sld hB.1 hB.2.1 hX h1 (fun q => by have : g.2.2.1 ≤ g.2.1 := q; omega) hw.2.1 hi hd (ma_nextS hK hx (hn rfl) hB hw hL)
theorem ma_t_baload (aux : List Nat) : ma_SndS .baload aux := by
  intro l g x scr mi P Q K k ls st c sl S h p e s m args below meth cd H locs la pc w0 Z hQ hK hd hn ho hx hB hw hL
  obtain ⟨i, st1, rfl, hx⟩ := ma_i1_inv hx
  obtain ⟨a, st2, rfl, hx⟩ := ma_r1_inv hx
  have hKK := hB.2.2.2.2.2.2.2.2.1.1
  obtain ⟨j, n, rfl, hS, hi⟩ := ma_in_inv hx.1
  by_cases ha : ma_a aux 0 = 0
  · rw [if_pos ha] at hS
    exact va_bald hB.1 hB.2.1 hKK hw.1 j 1 (ma_ws_arr g S h j n _ hS) rfl hi hd (ma_nextS hK hx.2 (hn rfl) hB hw hL)
  · rw [if_neg ha] at hS
    exact va_zald hB.1 hB.2.1 hKK hw.1 j 2 (ma_ws_arr g S h j n _ hS) rfl hi hd (ma_nextS hK hx.2 (hn rfl) hB hw hL)
theorem ma_t_laload (aux : List Nat) : ma_SndS .laload aux := by
  intro l g x scr mi P Q K k ls st c sl S h p e s m args below meth cd H locs la pc w0 Z hQ hK hd hn ho hx hB hw hL
  obtain ⟨i, st1, rfl, hx⟩ := ma_i1_inv hx
  obtain ⟨a, st2, rfl, hx⟩ := ma_r1_inv hx
  have hKK := hB.2.2.2.2.2.2.2.2.1.1
  obtain ⟨j, n, rfl, hS, hi⟩ := ma_in_inv hx.1
  exact va_lald hB.1 hB.2.1 hKK hw.1 j 3 (ma_ws_arr g S h j n _ hS) rfl hi hd (ma_nextS hK hx.2 (hn rfl) hB hw hL)
theorem ma_t_aaload (aux : List Nat) : ma_SndS .aaload aux := by
  intro l g x scr mi P Q K k ls st c sl S h p e s m args below meth cd H locs la pc w0 Z hQ hK hd hn ho hx hB hw hL
  obtain ⟨i, st1, rfl, hx⟩ := ma_i1_inv hx
  obtain ⟨a, st2, rfl, hx⟩ := ma_r1_inv hx
  have hKK := hB.2.2.2.2.2.2.2.2.1.1
  obtain ⟨j, n, rfl, hS, hi⟩ := ma_in_inv hx.1
  exact va_aldq hB.1 hB.2.1 hKK hw.1 j 4 (ma_ws_arr g S h j n _ hS) rfl hi hd (ma_nextS hK hx.2 (hn rfl) hB hw hL)
theorem ma_t_iastore (aux : List Nat) : ma_SndS .iastore aux := by
  intro l g x scr mi P Q K k ls st c sl S h p e s m args below meth cd H locs la pc w0 Z hQ hK hd hn ho hx hB hw hL
  obtain ⟨v, st0, rfl, hx⟩ := ma_i1_inv hx
  obtain ⟨i, st1, rfl, hx⟩ := ma_i1_inv hx
  obtain ⟨a, st2, rfl, hx⟩ := ma_r1_inv hx
  have hKK := hB.2.2.2.2.2.2.2.2.1.1
  obtain ⟨j, n, rfl, hS, hi⟩ := ma_in_inv hx.1
  refine va_iast hB.1 hB.2.1 hKK hw.1 (ma_D g S h) hw.rfS j 0 (ma_ws_arr g S h j n _ hS) rfl hi hd (fun H1 locs1 hP1 hD1 hS1 => ?_)
  rw [ma_ws_uI g S h j n _ _ v hS rfl rfl] at hP1
  exact ma_Wsz fun hz => ma_nextS hK hx.2 (hn rfl) hB (hw.step hS1 hP1 hz) hL
theorem ma_t_bastore (aux : List Nat) : ma_SndS .bastore aux := by
  intro l g x scr mi P Q K k ls st c sl S h p e s m args below meth cd H locs la pc w0 Z hQ hK hd hn ho hx hB hw hL
  obtain ⟨v, st0, rfl, hx⟩ := ma_i1_inv hx
  obtain ⟨i, st1, rfl, hx⟩ := ma_i1_inv hx
  obtain ⟨a, st2, rfl, hx⟩ := ma_r1_inv hx
  have hKK := hB.2.2.2.2.2.2.2.2.1.1
  obtain ⟨j, n, rfl, hS, hi⟩ := ma_in_inv hx.1
  have hx2 := hx.2
  by_cases ha : ma_a aux 0 = 0
  · rw [if_pos ha] at hS hx2
    refine va_bast hB.1 hB.2.1 hKK hw.1 (ma_D g S h) hw.rfS j 1 (ma_ws_arr g S h j n _ hS) rfl hi hd (fun H1 locs1 hP1 hD1 hS1 => ?_)
    rw [ma_ws_uI g S h j n _ _ _ hS rfl rfl] at hP1
    exact ma_Wsz fun hz => ma_nextS hK hx2 (hn rfl) hB (hw.step hS1 hP1 hz) hL
  · rw [if_neg ha] at hS hx2
    refine va_zast hB.1 hB.2.1 hKK hw.1 (ma_D g S h) hw.rfS j 2 (ma_ws_arr g S h j n _ hS) rfl hi hd (fun H1 locs1 hP1 hD1 hS1 => ?_)
    rw [ma_ws_uI g S h j n _ _ _ hS rfl rfl] at hP1
    exact ma_Wsz fun hz => ma_nextS hK hx2 (hn rfl) hB (hw.step hS1 hP1 hz) hL
theorem ma_t_lastore (aux : List Nat) : ma_SndS .lastore aux := by
  intro l g x scr mi P Q K k ls st c sl S h p e s m args below meth cd H locs la pc w0 Z hQ hK hd hn ho hx hB hw hL
  obtain ⟨v, st0, rfl, hx⟩ := ma_l1_inv hx
  obtain ⟨i, st1, rfl, hx⟩ := ma_i1_inv hx
  obtain ⟨a, st2, rfl, hx⟩ := ma_r1_inv hx
  have hKK := hB.2.2.2.2.2.2.2.2.1.1
  obtain ⟨j, n, rfl, hS, hi⟩ := ma_in_inv hx.1
  refine va_last hB.1 hB.2.1 hKK hw.1 (ma_D g S h) hw.rfS j 3 (ma_ws_arr g S h j n _ hS) rfl hi hd (fun H1 locs1 hP1 hD1 hS1 => ?_)
  have e1 : (ma_ws g S h).set j (g.2.2.1 + j, .inl (g.2.2.2 .long, n, .inr (.inl (vp_updL (h.2.1 (j + 2)) i.toNatClampNeg v)))) = ma_ws g S (ma_uL h (j + 2) i.toNatClampNeg v) := by
    refine ma_ws_set g S h _ j hS ?_ (fun j' sh' hj _ => ma_uL_other (by omega) sh' g)
    show Sum.inl (_, _, Sum.inr (Sum.inl ((ma_uL h (j + 2) i.toNatClampNeg v).2.1 (j + 2)))) = _
    rw [ma_uL_upd]
  rw [e1] at hP1
  exact ma_Wsz fun hz => ma_nextS hK hx.2 (hn rfl) hB (hw.step hS1 hP1 hz) hL
theorem ma_t_aastore (aux : List Nat) : ma_SndS .aastore aux := by
  intro l g x scr mi P Q K k ls st c sl S h p e s m args below meth cd H locs la pc w0 Z hQ hK hd hn ho hx hB hw hL
  obtain ⟨v, st0, rfl, hx⟩ := ma_r1_inv hx
  obtain ⟨i, st1, rfl, hx⟩ := ma_i1_inv hx
  obtain ⟨a, st2, rfl, hx⟩ := ma_r1_inv hx
  have hKK := hB.2.2.2.2.2.2.2.2.1.1
  obtain ⟨h1, h2, hx⟩ := hx
  obtain ⟨j, n, rfl, hS, hi⟩ := ma_in_inv h1
  obtain ⟨j2, rfl, hS2⟩ := ma_sh_some h2
  have hv : (ma_ws g S h)[j2]? = some (g.2.2.1 + j2, .inr (ma_rowi, (ma_ty ma_rowi).mapIdx (fun k ty => ma_fv g h (j2 + 2) k ty))) := by rw [ma_ws_at, hS2]; rfl
  refine va_astq hB.1 hB.2.1 hKK hw.1 (ma_D g S h) hw.rfS j 4 j2 ma_rowi (r := ma_rowc) (ma_ws_arr g S h j n _ hS) rfl hv ma_rowok hi hd (fun H1 locs1 hP1 hD1 hS1 => ?_)
  have e1 : (ma_ws g S h).set j (g.2.2.1 + j, .inl (g.2.2.2 (.object ma_row), n, .inr (.inr (.inr (.inr (va_up (fun i => ma_ro g (h.2.2 (j + 2) i)) i.toNatClampNeg (some (g.2.2.1 + j2)))))))) = ma_ws g S (ma_uR h (j + 2) i.toNatClampNeg (j2 + 2)) := by
    refine ma_ws_set g S h _ j hS ?_ (fun j' sh' hj _ => ma_uR_other (by omega) sh' g)
    show Sum.inl (_, _, Sum.inr (Sum.inr (Sum.inr (Sum.inr (fun i' => ma_ro g ((ma_uR h (j + 2) i.toNatClampNeg (j2 + 2)).2.2 (j + 2) i')))))) = _
    rw [ma_uR_upd]
    rfl
  rw [e1] at hP1
  exact ma_Wsz fun hz => ma_nextS hK hx (hn rfl) hB (hw.step hS1 hP1 hz) hL
theorem ma_t_arraylength (aux : List Nat) : ma_SndS .arraylength aux := by
  intro l g x scr mi P Q K k ls st c sl S h p e s m args below meth cd H locs la pc w0 Z hQ hK hd hn ho hx hB hw hL
  obtain ⟨a, st2, rfl, hx⟩ := ma_r1_inv hx
  have hKK := hB.2.2.2.2.2.2.2.2.1.1
  match aux, hx with
  | [], hx =>
    obtain ⟨n, h1, hx2⟩ := hx
    obtain ⟨j, rfl, hS⟩ := ma_sh_some h1
    exact va_alen hB.1 hB.2.1 hKK hw.1 j 0 (ma_ws_arr g S h j n _ hS) rfl rfl hd (ma_nextS hK hx2 (hn rfl) hB hw hL)
  | _ :: _, hx =>
    match scr, hx, hB, hK with
    | some (L, xs), hx, hB, hK =>
      obtain ⟨rfl, hx2⟩ := hx
      obtain ⟨hX, h1, h2⟩ := hB.2.2.2.2.2.2.2.2.2.2 L xs rfl
      exact va_slen hB.1 hB.2.1 hX h1 (fun q => by have : g.2.2.1 ≤ g.2.1 := q; omega) hw.2.1 hd (ma_nextS hK hx2 (hn rfl) hB hw hL)
theorem ma_t_new (i : Nat) (aux : List Nat) : ma_SndS (.new i) aux := by
  intro l g x scr mi P Q K k ls st c sl S h p e s m args below meth cd H locs la pc w0 Z hQ hK hd hn ho hx hB hw hL
  obtain ⟨hxt, hc1, hs1, hx⟩ := hx
  have hKK := hB.2.2.2.2.2.2.2.2.1.1
  simp only [ma_okx] at ho
  split at ho
  · rename_i C T N hc
    simp only [Bool.and_eq_true, decide_eq_true_eq] at ho
    obtain ⟨⟨⟨hN, h1⟩, h2⟩, h3⟩ := ho
    rw [← hN] at hs1 hx
    have h1 := ma_has_in h1
    have h2 := ma_has_in h2
    have h3 := ma_has_in h3
    obtain ⟨hk1, hk2, hk3, hk4⟩ := ma_clok hc
    have hty0 : ∀ k, k < N → parseFieldDescriptor (T k).2.2.1 = some ((ma_ty (ma_a aux 0)).getD k .int) := by
      intro k hk
      rw [hk2 k hk, List.getD_eq_getElem?_getD]
      have : k < (ma_ty (ma_a aux 0)).length := by rw [hk1]; exact hk
      rw [List.getElem?_eq_getElem this]
      rfl
    have hfs : ∀ j, j < N → defaultValue ((ma_ty (ma_a aux 0)).getD j .int) = vp_V ((ma_ty (ma_a aux 0)).mapIdx (fun k ty => ma_fv g (ma_z h (S.length + 2)) (S.length + 2) k ty)) j := by
      intro j hj
      have hj2 : j < (ma_ty (ma_a aux 0)).length := by rw [hk1]; exact hj
      rw [vp_V, List.getD_eq_getElem?_getD, List.getD_eq_getElem?_getD, List.getElem?_mapIdx, List.getElem?_eq_getElem hj2]
      have hplain := ma_plain (ma_a aux 0) j hj2
      simp only [Option.getD_some, Option.map_some]
      revert hplain
      generalize (ma_ty (ma_a aux 0))[j] = ty
      intro hplain
      cases ty <;> simp [ma_tc] at hplain <;> simp [ma_fv, ma_z, defaultValue, ma_ro, va_rf]
    refine va_new (c0 := cd) (own := mi.1.cls) hB.1 hB.2.1 hB.2.2.2.2.2.2.1 (fun w hw => List.mem_cons_of_mem _ (hk4 w hw)) _ hty0 hB.2.2.2.2.2.2.2.1 (ma_wBS hB h1) (ma_wBS hB h2) (ma_wBS hB h3) hKK hw.1 (ma_D g S h) hw.rfS (fun q hq => Nat.le_trans (Nat.le_trans hB.2.2.2.2.2.2.2.2.2.1 hw.2.1.1) hq) hc hfs hc1 hs1 hd (fun q H1 hP1 hD1 hS1 => ?_)
    refine ma_Wsz fun hz => ?_
    obtain ⟨rfl, hw1⟩ := hw.new (h' := ma_z h (S.length + 2)) (sh := .inl (ma_a aux 0)) hxt hS1 hP1 hD1 hz rfl (fun j sh' hj => ma_z_other (by have := (List.getElem?_eq_some_iff.mp hj).1; omega) sh' g)
    exact ma_nextS hK hx (hn rfl) hB hw1 hL
  · cases ho
theorem ma_t_newarray (aty : ArrayType) (aux : List Nat) : ma_SndS (.newarray aty) aux := by
  intro l g x scr mi P Q K k ls st c sl S h p e s m args below meth cd H locs la pc w0 Z hQ hK hd hn ho hx hB hw hL
  obtain ⟨n, st', rfl, hxt, N, rfl, hN, hc1, hs1, hx⟩ := ma_i1_inv hx
  have hKK := hB.2.2.2.2.2.2.2.2.1.1
  simp only [ma_okx, Bool.and_eq_true, decide_eq_true_eq] at ho
  obtain ⟨hat, h1⟩ := ho
  have h1 := ma_has_in h1
  have hfin : ∀ (a0 : vp_A) (ty : FieldType), newarray.typeOf aty = ty → (∀ cA : ClassId, vp_cell cA a0 = arrV cA N (fun _ => defaultValue ty)) → componentBytes ty ≤ 8 → a0 = (N, ma_cont g (ma_z h (S.length + 2)) (S.length + 2) ty) → (∃ t0 : Nat, (ma_tl g)[t0]? = some (g.2.2.2 ty, ty)) → ty ≠ .object ma_row → ma_WS Z l mi p e s m args below meth cd H locs c sl pc la ((Value.int (nI N) :: st').map (ma_tv g)) := by
    intro a0 ty hty ha hbytes hcont htl hno
    obtain ⟨t0, ht0⟩ := htl
    subst hty
    refine va_newa hB.1 hB.2.1 (ma_wBS hB h1) rfl hKK hw.1 (ma_D g S h) hw.rfS (fun q hq => Nat.le_trans (Nat.le_trans hB.2.2.2.2.2.2.2.2.2.1 hw.2.1.1) hq) ha (nI_pos (by omega)) (nI_clamp (by omega)) (Nat.le_trans (Nat.mul_le_mul hN hbytes) (by decide)) hc1 hs1 hd (fun q cA H1 hK1 hP1 hD1 hS1 => ?_)
    have hcA : cA = g.2.2.2 (newarray.typeOf aty) := by
      have e1 := (hK1.2 5 (cA, newarray.typeOf aty) (by simp [ma_tl])).2
      have e2 := (hK1.2 t0 (g.2.2.2 (newarray.typeOf aty), newarray.typeOf aty) (by rw [List.getElem?_append_left (List.getElem?_eq_some_iff.mp ht0).1]; exact ht0)).2
      revert e1 e2
      cases aty <;> exact fun e1 e2 => Option.some.inj (e1.symm.trans e2)
    subst hcA
    refine ma_Wsz fun hz => ?_
    obtain ⟨rfl, hw1⟩ := hw.new (h' := ma_z h (S.length + 2)) (sh := .inr (newarray.typeOf aty, N)) hxt hS1 hP1 hD1 hz (by rw [hcont]; rfl) (fun j sh' hj => ma_z_other (by have := (List.getElem?_eq_some_iff.mp hj).1; omega) sh' g)
    exact ma_nextS hK hx (hn rfl) hB hw1 hL
  rcases hat with rfl | rfl | rfl | rfl
  · exact hfin (N, .inl (fun _ => 0)) .int rfl (fun cA => rfl) (by decide) (by simp [ma_cont, ma_z]) ⟨0, rfl⟩ (by simp)
  · exact hfin (N, .inl (fun _ => 0)) .byte rfl (fun cA => rfl) (by decide) (by simp [ma_cont, ma_z]) ⟨1, rfl⟩ (by simp)
  · exact hfin (N, .inl (fun _ => 0)) .boolean rfl (fun cA => rfl) (by decide) (by simp [ma_cont, ma_z]) ⟨2, rfl⟩ (by simp)
  · exact hfin (N, .inr (.inl (fun _ => 0))) .long rfl (fun cA => rfl) (by decide) (by simp [ma_cont, ma_z]) ⟨3, rfl⟩ (by simp)
theorem ma_t_anewarray (i : Nat) (aux : List Nat) : ma_SndS (.anewarray i) aux := by
  intro l g x scr mi P Q K k ls st c sl S h p e s m args below meth cd H locs la pc w0 Z hQ hK hd hn ho hx hB hw hL
  obtain ⟨n, st', rfl, hxt, N, rfl, hN, hc1, hs1, hx⟩ := ma_i1_inv hx
  have hKK := hB.2.2.2.2.2.2.2.2.1.1
  refine va_newq hB.1 hB.2.1 (own := mi.1.cls) (C := ma_row) hB.2.2.2.2.2.2.2.1 (ma_wBS hB (ma_has_in ho)) hB.2.2.2.2.2.2.2.2.1.2.2.2 hKK hw.1 (ma_D g S h) hw.rfS (fun q hq => Nat.le_trans (Nat.le_trans hB.2.2.2.2.2.2.2.2.2.1 hw.2.1.1) hq) (nI_pos (by omega)) (nI_clamp (by omega)) (by omega) hc1 hs1 hd (fun q cA H1 hK1 hP1 hD1 hS1 => ?_)
  have hcA : cA = g.2.2.2 (.object ma_row) := by
    obtain ⟨_, _, _, _, _, e1⟩ := (hK1.2 5 (cA, .object ma_row) (by simp [ma_tl])).2
    obtain ⟨_, _, _, _, _, e2⟩ := (hK1.2 4 (g.2.2.2 (.object ma_row), .object ma_row) (by simp [ma_tl])).2
    exact Option.some.inj (e1.symm.trans e2)
  subst hcA
  refine ma_Wsz fun hz => ?_
  obtain ⟨rfl, hw1⟩ := hw.new (h' := ma_z h (S.length + 2)) (sh := .inr (.object ma_row, N)) hxt hS1 hP1 hD1 hz (by show Sum.inl (_, _, _) = Sum.inl (_, _, _); simp [ma_cont, ma_z, ma_ro]) (fun j sh' hj => ma_z_other (by have := (List.getElem?_eq_some_iff.mp hj).1; omega) sh' g)
  exact ma_nextS hK hx (hn rfl) hB hw1 hL
theorem ma_t_return (aux : List Nat) : ma_SndS .return_ aux := by
  intro l g x scr mi P Q K k ls st c sl S h p e s m args below meth cd H locs la pc w0 Z hQ hK hd hn ho hx hB hw hL
  match st, hx with
  | [], hx =>
    obtain ⟨h1, h2, h3, hq⟩ := hx
    have hlocks := hB.2.2.2.2.1
    refine ma_Wmono hQ ?_
    refine W.widen h1 h2 ?_
    exact W.vret hB.1 hB.2.1 (hB.2.2.2.1.trans (of_decide_eq_true ho)) (fun t ht hW => ⟨⟨none, S, h, rfl, hq, by rw [ht]; exact ⟨hw.1, fun q => (hw.2.2 q).1⟩⟩, hw.2.1.F ht, fun q => by rw [ht, (hw.2.2 q).2, h3 q]⟩) hw.2.1.2.2 hd
theorem ma_t_ireturn (aux : List Nat) : ma_SndS .ireturn aux := by
  intro l g x scr mi P Q K k ls st c sl S h p e s m args below meth cd H locs la pc w0 Z hQ hK hd hn ho hx hB hw hL
  match st, hx with
  | [.int v], hx =>
    obtain ⟨h0, h1, h2, h3, hq⟩ := hx
    have hlocks := hB.2.2.2.2.1
    refine ma_Wmono hQ ?_
    have hQ2 : ∀ t : State, t.heap = H → s.WarmedH t.vm → ma_Qc g x mi.2.2.2.2.2.1 Q args s (.returned (some (.int v))) t := fun t ht hW => ⟨⟨some (.int v), S, h, rfl, hq, by rw [ht]; exact ⟨hw.1, fun q => (hw.2.2 q).1⟩⟩, hw.2.1.F ht, fun q => by rw [ht, (hw.2.2 q).2, h3 q]⟩
    refine W.widen h1 h2 ?_
    simp only [ma_okx] at ho
    by_cases ha : ma_a aux 0 = 1
    · rw [if_pos ha] at ho
      refine W.zret hB.1 hB.2.1 (hB.2.2.2.1.trans (of_decide_eq_true ho)) ?_ hQ2 hw.2.1.2.2 hd
      rcases h0 ha with rfl | rfl <;> rfl
    · rw [if_neg ha] at ho
      exact W.iret hB.1 hB.2.1 (hB.2.2.2.1.trans (of_decide_eq_true ho)) hQ2 hw.2.1.2.2 hd
theorem ma_t_areturn (aux : List Nat) : ma_SndS .areturn aux := by
  intro l g x scr mi P Q K k ls st c sl S h p e s m args below meth cd H locs la pc w0 Z hQ hK hd hn ho hx hB hw hL
  match st, hx with
  | [.ref v], hx =>
    obtain ⟨h1, h2, h3, hq⟩ := hx
    have hlocks := hB.2.2.2.2.1
    refine ma_Wmono hQ ?_
    refine W.widen h1 h2 ?_
    simp only [ma_okx] at ho
    obtain ⟨rt, hr, hrt⟩ : ∃ rt, mi.2.2.2.1 = some rt ∧ ((∃ n, rt = .object n) ∨ ∃ t, rt = .array t) := by
      split at ho
      · rename_i n hn
        exact ⟨_, hn, Or.inl ⟨n, rfl⟩⟩
      · rename_i n hn
        exact ⟨_, hn, Or.inr ⟨n, rfl⟩⟩
      · cases ho
    refine W.aret (v := ma_tv g (.ref v)) hB.1 hB.2.1 (hB.2.2.2.1.trans hr) hrt ?_ (fun t ht hW => ⟨⟨some (.ref v), S, h, rfl, hq, by rw [ht]; exact ⟨hw.1, fun q => (hw.2.2 q).1⟩⟩, hw.2.1.F ht, fun q => by rw [ht, (hw.2.2 q).2, h3 q]⟩) hw.2.1.2.2 hd
    show va_rf (ma_ro g v) = .null ∨ ∃ a, va_rf (ma_ro g v) = .ref a
    cases ma_ro g v with
    | none => exact Or.inl rfl
    | some a => exact Or.inr ⟨a, rfl⟩
theorem ma_t_tableswitch {w0 : Cond} {Z : State → Prop} {l : Launch} {g : ma_G} {x : Bool} {scr : Option (Nat × (Nat → Int32))} {mi : ma_M} {P : List ma_E} {Q : ma_P} {K : ma_K} {k : Nat} {ls : List (Option Value)} {st : List Value} {c sl : Nat} {S : ma_S} {h : ma_H} {p : Program} {e : Env} {s : State} {m : MethodId} {args : Array Value} {below : List Frame} {meth : Method} {cd : Code} {H : Heap} {locs : List Loc} {la : Array Slot} {pc len : Nat} {d lo hi : Int} {offs : Array Int} {aux : List Nat}
    (hK : ∀ k ls st c sl S h, K k ls st c sl S h → ma_JS w0 Z p e s m args below meth cd l g x scr mi P k ls st c sl S h) (hd : decode mi.2.1 pc = .ok (.tableswitch d lo hi offs, len)) (ho : ma_okx mi P k pc (.tableswitch d lo hi offs) aux = true)
    (hx : ma_x x scr mi.2.2.2.2.2.1 mi.2.2.2.2.2.2 (ma_or l g x) (.tableswitch d lo hi offs) aux k ls st c sl S h K Q) (hB : ma_BS w0 g scr mi p s m args meth cd) (hw : ma_wH g x S h s H locs c) (hL : ma_L g mi.2.2.1 la ls) : ma_WS Z l mi p e s m args below meth cd H locs c sl pc la (st.map (ma_tv g)) := by
  obtain ⟨z, st', rfl, hx1, hx2⟩ := ma_i1_inv hx
  simp only [ma_okx, Bool.and_eq_true, decide_eq_true_eq] at ho
  obtain ⟨⟨⟨⟨⟨rfl, h2⟩, h3⟩, h4⟩, h5⟩, h6⟩ := ho
  by_cases hin : vp_in z aux.tail.length
  · obtain ⟨j, hj, rfl⟩ := vp_in_of hin (by omega)
    have hT : (nI j).toInt = (j : Int) := nI_toInt (by omega)
    obtain ⟨q, hq1, hq2⟩ := ma_tgt_inv (List.all_eq_true.mp h6 j (List.mem_range.mpr hj))
    have e1 : aux.tail[j]? = some (aux.tail.getD j 0) := by rw [List.getD_eq_getElem?_getD, List.getElem?_eq_getElem hj]; rfl
    have e2 : offs[j]? = some (offs.getD j 0) := by
      have hj2 : j < offs.size := by rw [h5]; exact hj
      simp [hj2]
    refine lv_tableIn hB.1 hB.2.1 hd (by rw [hT]; omega) (by rw [hT]; omega) (off := offs.getD j 0) ?_ hq2 (ma_nextS hK (ma_sw_inv hx1 e1 (by rw [Nat.zero_add])) hq1 hB hw hL)
    rw [hT, show ((j : Int) - 0).toNat = j by omega]
    exact e2
  · obtain ⟨q, hq1, hq2⟩ := ma_tgt_inv h4
    refine lv_tableOut hB.1 hB.2.1 hd ?_ hq2 (ma_nextS hK (hx2 hin) hq1 hB hw hL)
    rw [vp_in_iff] at hin
    omega
theorem ma_ranS {w0 : Cond} {Z : State → Prop} {l : Launch} {g : ma_G} {x : Bool} {scr : Option (Nat × (Nat → Int32))} {mi mj : ma_M} {P : List ma_E} {post : ma_P} {K : ma_K} {k : Nat} {ls : List (Option Value)} {st rest : List Value} {c sl : Nat} {S : ma_S} {h : ma_H} {p : Program} {e : Env} {s : State} {m : MethodId} {args av : Array Value} {below : List Frame} {meth : Method} {cd : Code} {H : Heap} {locs : List Loc} {la : Array Slot} {pc : Nat}
    (hK : ∀ k ls st c sl S h, K k ls st c sl S h → ma_JS w0 Z p e s m args below meth cd l g x scr mi P k ls st c sl S h) (hn : ma_pcAt P (k + 1) = some (pc + 3)) (hB : ma_BS w0 g scr mi p s m args meth cd) (hw : ma_wH g x S h s H locs c) (hL : ma_L g mi.2.2.1 la ls)
    (hr : va_Run p l e (ma_rm mi) s m args below meth cd H locs c sl mj.2.2.2.2.2.1 mj.2.2.2.2.2.2 (F0 m pc la st) (rest.map (ma_tv g)) (ma_Qc g x mj.2.2.2.2.2.1 post av) (fun q => g.2.2.1 ≤ q))
    (hx : ∀ v S' h', post v S' h' → K (k + 1) ls (v.toList ++ rest) (c + mj.2.2.2.2.2.1) (sl + mj.2.2.2.2.2.2) S' h') : ma_WS Z l mi p e s m args below meth cd H locs c sl pc la st := by
  intro T hT X
  obtain ⟨v, st₀, t, T', L, h0, X', hLf, e1, e2, ⟨⟨v', S', h', hv, hp, hat⟩, ⟨hz, hk⟩, hzz⟩, go⟩ := hr T hT X
  have hv' : v = v'.map (ma_tv g) := by cases hv; rfl
  subst hv'
  rw [h0] at hz hk hzz
  have hw' : ma_wH g x S' h' s T'.heap (locs ++ L) (c + mj.2.2.2.2.2.1) := by
    refine ⟨by rw [e1]; exact hat.1, ⟨Nat.le_trans hw.2.1.1 (by rw [e1]; exact hz), fun q g1 g2 => ?_, fun q hq => ?_⟩, fun hxt => ⟨by rw [e1]; exact hat.2 hxt, by rw [e1, hzz hxt, (hw.2.2 hxt).2]; omega⟩⟩
    · rw [e1, hk q (Nat.lt_of_lt_of_le g1 hw.2.1.1) g2]
      exact hw.2.1.2.1 q g1 g2
    · rcases List.mem_append.mp hq with h | h
      · exact hw.2.1.2.2 q h
      · exact hLf q h
  obtain ⟨t2, a1, b1⟩ := ma_nextS (below := below) (e := e) hK (hx v' S' h' hp) hn hB hw' hL T' rfl X'
  refine ⟨t2, go t2 ?_, b1⟩
  have e3 : (v'.toList ++ rest).map (ma_tv g) = (v'.map (ma_tv g)).toList ++ rest.map (ma_tv g) := by
    cases v' <;> simp
  rw [← e3]
  exact a1
theorem ma_t_invokevirtual (i : Nat) (aux : List Nat) : ma_SndS (.invokevirtual i) aux := by
  intro l g x scr mi P Q K k ls st c sl S h p e s m args below meth cd H locs la pc w0 Z hQ hK hd hn ho hx hB hw hL
  simp only [ma_okx, Bool.and_eq_true] at ho
  obtain ⟨mj, hm, hdd, hR, hcode, hini⟩ := ma_okm_inv ho.1
  simp only [ma_x] at hx
  split at hx
  · rename_i av a rest hpop
    obtain ⟨hsh, hcat, mc', ms', post, ⟨mj', hm', rfl, rfl, hM⟩, hc1, hs1, hx⟩ := hx
    cases hm.symm.trans hm'
    obtain ⟨as, h1, h2, h3⟩ := ma_pop_inv hpop
    rw [List.append_nil] at h1
    subst h1
    subst h2
    obtain ⟨j, rfl, hS⟩ := ma_sh_some hsh
    have ho2 := ho.2
    simp only [ma_okv, hm] at ho2
    split at ho2
    · rename_i mj2 C T N hmj hc
      cases hmj
      simp only [Bool.and_eq_true, decide_eq_true_eq] at ho2
      obtain ⟨⟨⟨hC, hlink⟩, hi1⟩, hi2⟩ := ho2
      subst hC
      have he : (ma_ws g S h)[j]? = some (g.2.2.1 + j, .inr (ma_a aux 2, (ma_ty (ma_a aux 2)).mapIdx (fun k ty => ma_fv g h (j + 2) k ty))) := by rw [ma_ws_at, hS]; rfl
      have hrecv := va_recv hB.2.2.2.2.2.2.2.2.1.1 hw.1 hc he
      have hpre := ma_pre hw hB.2.2.2.2.2.2.2.2.2.1 hB.2.2.2.2.2.2.2.2.1 (.ref (j + 2) :: av)
      have hi1 := ma_wBS hB (ma_has_in hi1)
      have hi2 := ma_wBS hB (ma_has_in hi2)
      have hini2 := ma_wBS hB hini
      have hstk : (F0 m pc la ((av.reverse ++ Value.ref (j + 2) :: rest).map (ma_tv g))).stack = (av.map (ma_tv g)).reverse ++ Value.ref (g.2.2.1 + j) :: rest.map (ma_tv g) := by
        show (av.reverse ++ Value.ref (j + 2) :: rest).map (ma_tv g) = _
        simp [ma_tv, ma_ro, va_rf]
      have hlen : (av.map (ma_tv g)).length = ma_a aux 1 := by simp [h3]
      have hcat2 : 2 * (F0 m pc la ((av.reverse ++ Value.ref (j + 2) :: rest).map (ma_tv g))).monitorRoom + ((rest.map (ma_tv g)).map fun v => v.category).sum ≤ 8 := by
        rw [ma_cat_eq]
        exact Nat.le_trans (Nat.le_of_eq (by show 2 * 0 + _ = _; omega)) hcat
      rcases ma_oklS hlink hB with hl1 | ⟨host, hl1⟩
      · exact ma_ranS hK (hn rfl) hB hw hL (va_runV (As := av.map (ma_tv g)) ⟨hB.1, hB.2.1, hB.2.2.1, hB.2.2.2.2.2.2.2.1, hB.2.2.2.2.2.2.1⟩ hM ⟨callB_of (bytes := mj.2.1) (maxL := mj.2.2.1) (ret := mj.2.2.2.1) (ma_a aux 1) hB.2.2.2.2.2.2.1 (ma_goodS hcode) rfl rfl rfl hini2 hl1 hdd hR, hi1, hi2⟩ ⟨hpre.1, hrecv, hpre.2⟩ rfl hlen hL.1 hstk hcat2 hd ⟨hc1, hs1⟩) hx
      · exact ma_ranS hK (hn rfl) hB hw hL (va_runVN (As := av.map (ma_tv g)) ⟨hB.1, hB.2.1, hB.2.2.1, hB.2.2.2.2.2.2.2.1, hB.2.2.2.2.2.2.1⟩ hM ⟨va_cnB (bytes := mj.2.1) (maxL := mj.2.2.1) (ret := mj.2.2.2.1) (ma_a aux 1) hB.2.2.2.2.2.2.1 (ma_goodS hcode) rfl rfl rfl hl1 hini2 hdd hR, hi1, hi2⟩ ⟨hpre.1, hrecv, hpre.2⟩ rfl hlen hL.1 hstk hcat2 hd ⟨hc1, hs1⟩) hx
    · cases ho2
  · exact hx.elim
theorem ma_t_invokestatic (i : Nat) (aux : List Nat) (ha : ¬ ma_a aux 0 = 0) : ma_SndS (.invokestatic i) aux := by
  intro l g x scr mi P Q K k ls st c sl S h p e s m args below meth cd H locs la pc w0 Z hQ hK hd hn ho hx hB hw hL
  simp only [ma_okx, if_neg ha, Bool.and_eq_true] at ho
  obtain ⟨mj, hm, hdd, hR, hcode, hini⟩ := ma_okm_inv ho.1
  simp only [ma_x, if_neg ha] at hx
  split at hx
  · rename_i av rest hpop
    obtain ⟨hcat, mc', ms', post, ⟨mj', hm', rfl, rfl, hM⟩, hc1, hs1, hx⟩ := hx
    cases hm.symm.trans hm'
    obtain ⟨as, h1, h2, h3⟩ := ma_pop_inv hpop
    rw [List.append_nil] at h1
    subst h1
    subst h2
    have ho2 := ho.2
    simp only [ma_oks, hm, Bool.and_eq_true] at ho2
    have hpre := ma_pre hw hB.2.2.2.2.2.2.2.2.2.1 hB.2.2.2.2.2.2.2.2.1 av
    have hi1 := ma_wBS hB (ma_has_in ho2.2)
    have hini2 := ma_wBS hB hini
    have hstk : (F0 m pc la ((av.reverse ++ rest).map (ma_tv g))).stack = (av.map (ma_tv g)).reverse ++ rest.map (ma_tv g) := by
      show (av.reverse ++ rest).map (ma_tv g) = _
      simp
    have hlen : (av.map (ma_tv g)).length = ma_a aux 1 := by simp [h3]
    have hcat2 : 2 * (F0 m pc la ((av.reverse ++ rest).map (ma_tv g))).monitorRoom + ((rest.map (ma_tv g)).map fun v => v.category).sum ≤ 8 := by
      rw [ma_cat_eq]
      exact Nat.le_trans (Nat.le_of_eq (by show 2 * 0 + _ = _; omega)) hcat
    rcases ma_oklS ho2.1 hB with hl1 | ⟨host, hl1⟩
    · exact ma_ranS hK (hn rfl) hB hw hL (va_runS (As := av.map (ma_tv g)) ⟨hB.1, hB.2.1, hB.2.2.1, hB.2.2.2.2.2.2.2.1, hB.2.2.2.2.2.2.1⟩ hM ⟨callB_of (bytes := mj.2.1) (maxL := mj.2.2.1) (ret := mj.2.2.2.1) (ma_a aux 1) hB.2.2.2.2.2.2.1 (ma_goodS hcode) rfl rfl rfl hini2 hl1 hdd hR, hi1⟩ hpre rfl hlen hL.1 hstk hcat2 hd ⟨hc1, hs1⟩) hx
    · exact ma_ranS hK (hn rfl) hB hw hL (va_runSN (As := av.map (ma_tv g)) ⟨hB.1, hB.2.1, hB.2.2.1, hB.2.2.2.2.2.2.2.1, hB.2.2.2.2.2.2.1⟩ hM ⟨va_cnB (bytes := mj.2.1) (maxL := mj.2.2.1) (ret := mj.2.2.2.1) (ma_a aux 1) hB.2.2.2.2.2.2.1 (ma_goodS hcode) rfl rfl rfl hl1 hini2 hdd hR, hi1, trivial⟩ hpre rfl hlen hL.1 hstk hcat2 hd ⟨hc1, hs1⟩) hx
  · exact hx.elim
theorem ma_t_invokespecial (i : Nat) (aux : List Nat) (ha : ¬ ma_a aux 0 = 0) : ma_SndS (.invokespecial i) aux := by
  intro l g x scr mi P Q K k ls st c sl S h p e s m args below meth cd H locs la pc w0 Z hQ hK hd hn ho hx hB hw hL
  simp only [ma_okx, if_neg ha, Bool.and_eq_true] at ho
  obtain ⟨ho1, ho2⟩ := ho
  obtain ⟨mj, hm, hdd, hR, hcode, hini⟩ := ma_okm_inv ho1
  simp only [ma_x, if_neg ha] at hx
  split at hx
  · rename_i av a rest hpop
    obtain ⟨⟨ci, hsh⟩, hcat, mc', ms', post, ⟨mj', hm', rfl, rfl, hM⟩, hc1, hs1, hx⟩ := hx
    cases hm.symm.trans hm'
    obtain ⟨as, h1, h2, h3⟩ := ma_pop_inv hpop
    rw [List.append_nil] at h1
    subst h1
    subst h2
    obtain ⟨j, rfl, hS⟩ := ma_sh_some hsh
    simp only [ma_oki, hm, Bool.and_eq_true, decide_eq_true_eq] at ho2
    obtain ⟨⟨ho3, ho2⟩, hi1⟩ := ho2
    have hpre := ma_pre hw hB.2.2.2.2.2.2.2.2.2.1 hB.2.2.2.2.2.2.2.2.1 (.ref (j + 2) :: av)
    have hi1 := ma_wBS hB (ma_has_in hi1)
    have hini2 := ma_wBS hB hini
    have hstk : (F0 m pc la ((av.reverse ++ Value.ref (j + 2) :: rest).map (ma_tv g))).stack = (av.map (ma_tv g)).reverse ++ Value.ref (g.2.2.1 + j) :: rest.map (ma_tv g) := by
      show (av.reverse ++ Value.ref (j + 2) :: rest).map (ma_tv g) = _
      simp [ma_tv, ma_ro, va_rf]
    have hlen : (av.map (ma_tv g)).length = ma_a aux 1 := by simp [h3]
    have hcat2 : 2 * (F0 m pc la ((av.reverse ++ Value.ref (j + 2) :: rest).map (ma_tv g))).monitorRoom + ((rest.map (ma_tv g)).map fun v => v.category).sum ≤ 8 := by
      rw [ma_cat_eq]
      exact Nat.le_trans (Nat.le_of_eq (by show 2 * 0 + _ = _; omega)) hcat
    have hwo : ma_wo mj = Cond.code mj.1 mj.2.1 mj.2.2.1 none :: ma_wd := by rw [← ho3.2]; rfl
    rcases ma_oklS ho2 hB with hl1 | ⟨host, hl1⟩
    · exact ma_ranS hK (hn rfl) hB hw hL (va_runI (As := av.map (ma_tv g)) ⟨hB.1, hB.2.1, hB.2.2.1, hB.2.2.2.2.2.2.2.1, hB.2.2.2.2.2.2.1⟩ hM ⟨callB_of (bytes := mj.2.1) (maxL := mj.2.2.1) (ret := none) (ma_a aux 1) hB.2.2.2.2.2.2.1 (ma_goodS hcode) hwo rfl rfl hini2 hl1 hdd hR, ho3.1, hi1⟩ hpre rfl hlen hL.1 hstk hcat2 hd ⟨hc1, hs1⟩) hx
    · exact ma_ranS hK (hn rfl) hB hw hL (va_runIN (As := av.map (ma_tv g)) ⟨hB.1, hB.2.1, hB.2.2.1, hB.2.2.2.2.2.2.2.1, hB.2.2.2.2.2.2.1⟩ hM ⟨va_cnB (bytes := mj.2.1) (maxL := mj.2.2.1) (ret := none) (ma_a aux 1) hB.2.2.2.2.2.2.1 (ma_goodS hcode) hwo rfl rfl hl1 hini2 hdd hR, ho3.1, hi1⟩ hpre rfl hlen hL.1 hstk hcat2 hd ⟨hc1, hs1⟩) hx
  · exact hx.elim
theorem ma_t_objinit (i : Nat) (aux : List Nat) (ha : ma_a aux 0 = 0) : ma_SndS (.invokespecial i) aux := by
  intro l g x scr mi P Q K k ls st c sl S h p e s m args below meth cd H locs la pc w0 Z hQ hK hd hn ho hx hB hw hL
  simp only [ma_okx, if_pos ha, Bool.and_eq_true, decide_eq_true_eq] at ho
  obtain ⟨⟨⟨h1, h2⟩, h3⟩, h4⟩ := ho
  have h1 := ma_has_in h1
  have h2 := ma_has_in h2
  have h3 := ma_has_in h3
  simp only [ma_x, if_pos ha] at hx
  obtain ⟨a, st', rfl, ⟨ci, hsh⟩, hcat, hx2⟩ := ma_r1_inv hx
  obtain ⟨j, rfl, hS⟩ := ma_sh_some hsh
  refine W.objInit hB.1 hB.2.1 hB.2.2.2.2.2.2.2.1 (ma_wBS hB h1) (ma_wBS hB h2) (ma_wBS hB h3) rfl (by rw [hB.2.2.1]; exact hL.1) (a := g.2.2.1 + j) (rest := st'.map (ma_tv g)) rfl hd h4 ?_ (ma_nextS hK hx2 (hn rfl) hB hw hL)
  rw [ma_cat_eq]
  show 2 * 0 + ma_cat st' + 12 ≤ min (50 * mi.2.2.2.2.1) 338
  omega
theorem ma_t_arraycopy (i : Nat) (aux : List Nat) (ha : ma_a aux 0 = 0) : ma_SndS (.invokestatic i) aux := by
  intro l g x scr mi P Q K k ls st c sl S h p e s m args below meth cd H locs la pc w0 Z hQ hK hd hn ho hx hB hw hL
  simp only [ma_okx, if_pos ha, Bool.and_eq_true, decide_eq_true_eq] at ho
  obtain ⟨⟨⟨⟨h1, h2⟩, h3⟩, h4⟩, h5⟩ := ho
  have h1 := ma_has_in h1
  have h2 := ma_has_in h2
  have h3 := ma_has_in h3
  have h4 := ma_has_in h4
  simp only [ma_x, if_pos ha] at hx
  split at hx
  · rename_i n dp a sp a0 rest
    obtain ⟨hcat, N0, N1, d0, d1, mm, hs0, hs1, rfl, rfl, rfl, hb0, hb1, hl0, hl1, hx⟩ := hx
    obtain ⟨j0, rfl, hS0⟩ := ma_sh_some hs0
    obtain ⟨j1, rfl, hS1⟩ := ma_sh_some hs1
    have hKK := hB.2.2.2.2.2.2.2.2.1.1
    have c0 : (nI d0).toNatClampNeg = d0 := nI_clamp (by omega)
    have c1 : (nI d1).toNatClampNeg = d1 := nI_clamp (by omega)
    have c2 : (nI mm).toNatClampNeg = mm := nI_clamp (by omega)
    refine va_copyi (A := fun q => g.2.2.1 ≤ q) hB.1 hB.2.1 (by rw [hB.2.2.1]; exact hL.1.symm) hB.2.2.2.2.2.2.2.1 (ma_wBS hB h1) (ma_wBS hB h2) (ma_wBS hB h3) (ma_wBS hB h4) hKK hw.1 (ma_D g S h) hw.rfS j0 j1 0 0 (ty := .int) (ma_ws_arr g S h j0 N0 _ hS0) (ma_ws_arr g S h j1 N1 _ hS1) rfl rfl rfl (nI_pos (by omega)) (nI_pos (by omega)) (nI_pos (by omega)) (by rw [c0, c2]; exact hb0) (by rw [c1, c2]; exact hb1) (fun i _ => rfl) h5 ?_ hd (fun H1 locs1 hP1 hD1 hS1' => ?_)
    · rw [ma_cat_eq]
      show ma_cat rest + (nativeFrameWords "java/lang/System" "arraycopy" 5 + 11) ≤ min (50 * mi.2.2.2.2.1) 338
      have : nativeFrameWords "java/lang/System" "arraycopy" 5 + 11 ≤ 42 := by decide
      omega
    · rw [c0, c1, c2] at hP1
      have e1 : (ma_ws g S h).set j1 (g.2.2.1 + j1, .inl (g.2.2.2 .int, N1, .inl (va_cpy (h.1 (j0 + 2)) (h.1 (j1 + 2)) d0 d1 mm))) = ma_ws g S (ma_cp h (j0 + 2) d0 (j1 + 2) d1 mm) := by
        refine ma_ws_set g S h _ j1 hS1 ?_ (fun j' sh' hj _ => ma_cell_other (h := h) (h' := ma_cp h (j0 + 2) d0 (j1 + 2) d1 mm) (fun i => ?_) (fun i => rfl) (fun i => rfl) sh')
        · show Sum.inl (_, _, Sum.inl ((ma_cp h (j0 + 2) d0 (j1 + 2) d1 mm).1 (j1 + 2))) = _
          congr 4
          funext q
          simp only [ma_cp, true_and]
          by_cases hq : d1 ≤ q ∧ q < d1 + mm
          · rw [if_pos hq, pk_cpy_in hq.1 hq.2]
          · rw [if_neg hq, pk_cpy_out (by omega)]
        · show (if j' + 2 = j1 + 2 ∧ d1 ≤ i ∧ i < d1 + mm then _ else _) = _
          rw [if_neg (fun q => hj (by omega))]
      have hP2 : va_P g.1 ma_cl (ma_ws g S (ma_cp h (j0 + 2) d0 (j1 + 2) d1 mm)) H1 := by rw [← e1]; exact hP1
      exact ma_Wsz fun hz => ma_nextS hK hx (hn rfl) hB (hw.step hS1' hP2 hz) hL
  · exact hx.elim

theorem ma_soundS {w0 : Cond} {Z : State → Prop} {p : Program} {e : Env} {s : State} {m : MethodId} {args : Array Value} {below : List Frame} {meth : Method} {cd : Code} {hs : List Nat} {l : Launch} {g : ma_G} {x : Bool} {scr : Option (Nat × (Nat → Int32))} {mi : ma_M} {P : List ma_E} {Q : ma_P} {K : ma_K} {k : Nat} {ls : List (Option Value)} {st : List Value} {c sl : Nat} {S : ma_S} {h : ma_H} (hQ : ma_RQ g x mi Q s args below Z) (hok : ma_okH mi P hs) (hk0 : k ∉ hs)
    (hK : ∀ k ls st c sl S h, K k ls st c sl S h → ma_JS w0 Z p e s m args below meth cd l g x scr mi P k ls st c sl S h) (hx : ma_go x scr mi.2.2.2.2.2.1 mi.2.2.2.2.2.2 (ma_or l g x) P Q K k ls st c sl S h) : ma_JS w0 Z p e s m args below meth cd l g x scr mi P k ls st c sl S h := by
  intro H locs la pc hB hw hL hpc
  unfold ma_go at hx
  split at hx
  · rename_i en hen
    have h1 := hok k en hen hk0
    obtain ⟨pc', len, ins, aux⟩ := en
    have hpc' : pc' = pc := by
      rw [ma_pcAt, hen] at hpc
      exact Option.some.inj hpc
    subst hpc'
    unfold ma_ok1 at h1
    simp only [Bool.and_eq_true] at h1
    obtain ⟨⟨⟨hd, hlen⟩, hnx⟩, ho⟩ := h1
    have hd := of_decide_eq_true hd
    dsimp only at hd hlen hnx ho hx
    have key : ma_SndS ins aux → len = ma_len ins → ma_WS Z l mi p e s m args below meth cd H locs c sl pc' la (st.map (ma_tv g)) := by
      intro hS hl
      subst hl
      exact hS hQ hK hd (fun ht => by rw [if_pos ht] at hnx; exact of_decide_eq_true hnx) ho hx hB hw hL
    cases ins
    case iconst => exact key (ma_t_iconst _ aux) (of_decide_eq_true hlen)
    case bipush => exact key (ma_t_bipush _ aux) (of_decide_eq_true hlen)
    case sipush => exact key (ma_t_sipush _ aux) (of_decide_eq_true hlen)
    case ldc => exact key (ma_t_ldc _ aux) (of_decide_eq_true hlen)
    case ldc_w => exact key (ma_t_ldcw _ aux) (of_decide_eq_true hlen)
    case ldc2_w => exact key (ma_t_ldc2 _ aux) (of_decide_eq_true hlen)
    case lconst => exact key (ma_t_lconst _ aux) (of_decide_eq_true hlen)
    case iload => exact key (ma_t_iload _ aux) (of_decide_eq_true hlen)
    case iload_n => exact key (ma_t_iload_n _ aux) (of_decide_eq_true hlen)
    case lload => exact key (ma_t_lload _ aux) (of_decide_eq_true hlen)
    case lload_n => exact key (ma_t_lload_n _ aux) (of_decide_eq_true hlen)
    case aload => exact key (ma_t_aload _ aux) (of_decide_eq_true hlen)
    case aload_n => exact key (ma_t_aload_n _ aux) (of_decide_eq_true hlen)
    case istore => exact key (ma_t_istore _ aux) (of_decide_eq_true hlen)
    case istore_n => exact key (ma_t_istore_n _ aux) (of_decide_eq_true hlen)
    case lstore => exact key (ma_t_lstore _ aux) (of_decide_eq_true hlen)
    case lstore_n => exact key (ma_t_lstore_n _ aux) (of_decide_eq_true hlen)
    case astore => exact key (ma_t_astore _ aux) (of_decide_eq_true hlen)
    case astore_n => exact key (ma_t_astore_n _ aux) (of_decide_eq_true hlen)
    case iinc => exact key (ma_t_iinc _ _ aux) (of_decide_eq_true hlen)
    case goto => exact key (ma_t_goto _ aux) (of_decide_eq_true hlen)
    case if_icmp => exact key (ma_t_icmp _ _ aux) (of_decide_eq_true hlen)
    case ifCond => exact key (ma_t_if _ _ aux) (of_decide_eq_true hlen)
    case getfield => exact key (ma_t_getfield _ aux) (of_decide_eq_true hlen)
    case putfield => exact key (ma_t_putfield _ aux) (of_decide_eq_true hlen)
    case new => exact key (ma_t_new _ aux) (of_decide_eq_true hlen)
    case newarray => exact key (ma_t_newarray _ aux) (of_decide_eq_true hlen)
    case anewarray => exact key (ma_t_anewarray _ aux) (of_decide_eq_true hlen)
    case invokevirtual => exact key (ma_t_invokevirtual _ aux) (of_decide_eq_true hlen)
    case iadd => exact key (ma_t_iadd aux) (of_decide_eq_true hlen)
    case isub => exact key (ma_t_isub aux) (of_decide_eq_true hlen)
    case imul => exact key (ma_t_imul aux) (of_decide_eq_true hlen)
    case iand => exact key (ma_t_iand aux) (of_decide_eq_true hlen)
    case ior => exact key (ma_t_ior aux) (of_decide_eq_true hlen)
    case ixor => exact key (ma_t_ixor aux) (of_decide_eq_true hlen)
    case idiv => exact key (ma_t_idiv aux) (of_decide_eq_true hlen)
    case irem => exact key (ma_t_irem aux) (of_decide_eq_true hlen)
    case ishl => exact key (ma_t_ishl aux) (of_decide_eq_true hlen)
    case ishr => exact key (ma_t_ishr aux) (of_decide_eq_true hlen)
    case iushr => exact key (ma_t_iushr aux) (of_decide_eq_true hlen)
    case ladd => exact key (ma_t_ladd aux) (of_decide_eq_true hlen)
    case lmul => exact key (ma_t_lmul aux) (of_decide_eq_true hlen)
    case land => exact key (ma_t_land aux) (of_decide_eq_true hlen)
    case lor => exact key (ma_t_lor aux) (of_decide_eq_true hlen)
    case ldiv => exact key (ma_t_ldiv aux) (of_decide_eq_true hlen)
    case lrem => exact key (ma_t_lrem aux) (of_decide_eq_true hlen)
    case lcmp => exact key (ma_t_lcmp aux) (of_decide_eq_true hlen)
    case lshl => exact key (ma_t_lshl aux) (of_decide_eq_true hlen)
    case lushr => exact key (ma_t_lushr aux) (of_decide_eq_true hlen)
    case i2l => exact key (ma_t_i2l aux) (of_decide_eq_true hlen)
    case l2i => exact key (ma_t_l2i aux) (of_decide_eq_true hlen)
    case i2b => exact key (ma_t_i2b aux) (of_decide_eq_true hlen)
    case dup => exact key (ma_t_dup aux) (of_decide_eq_true hlen)
    case dup2 => exact key (ma_t_dup2 aux) (of_decide_eq_true hlen)
    case pop => exact key (ma_t_pop aux) (of_decide_eq_true hlen)
    case iaload => exact key (ma_t_iaload aux) (of_decide_eq_true hlen)
    case baload => exact key (ma_t_baload aux) (of_decide_eq_true hlen)
    case laload => exact key (ma_t_laload aux) (of_decide_eq_true hlen)
    case aaload => exact key (ma_t_aaload aux) (of_decide_eq_true hlen)
    case iastore => exact key (ma_t_iastore aux) (of_decide_eq_true hlen)
    case bastore => exact key (ma_t_bastore aux) (of_decide_eq_true hlen)
    case lastore => exact key (ma_t_lastore aux) (of_decide_eq_true hlen)
    case aastore => exact key (ma_t_aastore aux) (of_decide_eq_true hlen)
    case arraylength => exact key (ma_t_arraylength aux) (of_decide_eq_true hlen)
    case ireturn => exact key (ma_t_ireturn aux) (of_decide_eq_true hlen)
    case areturn => exact key (ma_t_areturn aux) (of_decide_eq_true hlen)
    case return_ => exact key (ma_t_return aux) (of_decide_eq_true hlen)
    case invokespecial =>
      by_cases ha : ma_a aux 0 = 0
      · exact key (ma_t_objinit _ aux ha) (of_decide_eq_true hlen)
      · exact key (ma_t_invokespecial _ aux ha) (of_decide_eq_true hlen)
    case invokestatic =>
      by_cases ha : ma_a aux 0 = 0
      · exact key (ma_t_arraycopy _ aux ha) (of_decide_eq_true hlen)
      · exact key (ma_t_invokestatic _ aux ha) (of_decide_eq_true hlen)
    case tableswitch => exact ma_t_tableswitch hK hd ho hx hB hw hL
    all_goals exact hx.elim
  · exact hx.elim
theorem ma_wp_JS {w0 : Cond} {Z : State → Prop} {p : Program} {e : Env} {s : State} {m : MethodId} {args : Array Value} {below : List Frame} {meth : Method} {cd : Code} {l : Launch} {g : ma_G} {x : Bool} {scr : Option (Nat × (Nat → Int32))} {mi : ma_M} {P : List ma_E} {Q : ma_P} {hs : List Nat} (hQ : ma_RQ g x mi Q s args below Z) (hok : ma_okH mi P hs) (cuts : List Nat) (hcut : ∀ k, k ∈ hs → k ∈ cuts) : ∀ (n k : Nat) (ls : List (Option Value)) (st : List Value) (c sl : Nat) (S : ma_S) (h : ma_H), ma_wp x scr mi.2.2.2.2.2.1 mi.2.2.2.2.2.2 (ma_or l g x) P Q cuts (ma_JS w0 Z p e s m args below meth cd l g x scr mi P) n k ls st c sl S h → ma_JS w0 Z p e s m args below meth cd l g x scr mi P k ls st c sl S h
  | 0, _, _, _, _, _, _, _, hx => hx.elim
  | n + 1, k, ls, st, c, sl, S, h, hx => by
    rw [ma_wp] at hx
    split at hx
    · exact hx
    · rename_i hn
      exact ma_soundS hQ hok (fun z => hn (hcut k z)) (ma_wp_JS hQ hok cuts hcut n) hx
theorem ma_runS {w0 : Cond} {Z : State → Prop} {p : Program} {e : Env} {s : State} {m : MethodId} {args : Array Value} {below : List Frame} {meth : Method} {cd : Code} {l : Launch} {g : ma_G} {x : Bool} {scr : Option (Nat × (Nat → Int32))} {mi : ma_M} {P : List ma_E} {Q : ma_P} {hs : List Nat} {mc ms : Nat} (hQ : ma_RQ g x mi Q s args below Z) (hok : ma_okH mi P hs) (h1 : mi.2.2.2.2.2.1 = mc) (h2 : mi.2.2.2.2.2.2 = ms) (cuts : List Nat) (hcut : ∀ k, k ∈ hs → k ∈ cuts) (n : Nat) {k : Nat} (hk : k ∉ hs) {ls : List (Option Value)} {st : List Value} {c sl : Nat} {S : ma_S} {h : ma_H} (hx : ma_go x scr mc ms (ma_or l g x) P Q (ma_wp x scr mc ms (ma_or l g x) P Q cuts (ma_JS w0 Z p e s m args below meth cd l g x scr mi P) n) k ls st c sl S h) : ma_JS w0 Z p e s m args below meth cd l g x scr mi P k ls st c sl S h := by
  subst h1
  subst h2
  exact ma_soundS hQ hok hk (ma_wp_JS hQ hok cuts hcut n) hx
