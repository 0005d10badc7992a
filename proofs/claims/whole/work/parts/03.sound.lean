/-! the judgement and the check of a method's table -/
def ma_pcAt (P : List ma_E) (k : Nat) : Option Nat := (P[k]?).map (fun e => e.1)
def ma_B (g : ma_G) (scr : Option (Nat × (Nat → Int32))) (mi : ma_M) (p : Program) (s : State) (m : MethodId) (args : Array Value) (meth : Method) (cd : Code) : Prop :=
  p.tables.exec = Jvm.exec ∧ cd.code = mi.2.1 ∧ cd.maxLocals = mi.2.2.1 ∧ meth.sig.returnType = mi.2.2.2.1 ∧ meth.locks = false ∧ meth.name = mi.1.name ∧ (∀ w ∈ ma_wo mi, w.before args s = true) ∧ s.vm.findClass mi.1.cls = some m.cls ∧ ma_KK g s ∧ g.2.2.1 ≤ s.heap.size ∧ (∀ L xs, scr = some (L, xs) → va_X g.2.1 L xs s s.heap ∧ g.2.1 < s.heap.size ∧ g.2.1 < g.2.2.1)
def ma_wH (g : ma_G) (x : Bool) (S : ma_S) (h : ma_H) (s : State) (H : Heap) (locs : List Loc) (c : Nat) : Prop := va_P g.1 ma_cl (ma_ws g S h) H ∧ va_S (fun q => g.2.2.1 ≤ q) s.heap H locs ∧ (x = true → H.size = g.2.2.1 + S.length ∧ H.size = s.heap.size + c)
abbrev ma_W (l : Launch) (g : ma_G) (x : Bool) (mi : ma_M) (Q : ma_P) (p : Program) (e : Env) (s : State) (m : MethodId) (args : Array Value) (below : List Frame) (meth : Method) (cd : Code) (H : Heap) (locs : List Loc) (c sl : Nat) (pc : Nat) (la : Array Slot) (st : List Value) : Prop :=
  W p l e (ma_rm mi) s m args below meth cd H locs c sl (MQ below (ma_Qc g x mi.2.2.2.2.2.1 Q) args s mi.2.2.2.2.2.1 mi.2.2.2.2.2.2 (fun q => g.2.2.1 ≤ q)) (F0 m pc la st)
def ma_J (l : Launch) (g : ma_G) (x : Bool) (scr : Option (Nat × (Nat → Int32))) (mi : ma_M) (P : List ma_E) (Q : ma_P) : ma_K := fun k ls st c sl S h =>
  ∀ (p : Program) (e : Env) (s : State) (m : MethodId) (args : Array Value) (below : List Frame) (meth : Method) (cd : Code) (H : Heap) (locs : List Loc) (la : Array Slot) (pc : Nat),
    ma_B g scr mi p s m args meth cd → ma_wH g x S h s H locs c → ma_L g mi.2.2.1 la ls → ma_pcAt P k = some pc → ma_W l g x mi Q p e s m args below meth cd H locs c sl pc la (st.map (ma_tv g))
theorem ma_J.less {l : Launch} {g : ma_G} {x : Bool} {scr : Option (Nat × (Nat → Int32))} {mi : ma_M} {P : List ma_E} {Q : ma_P} {k c sl : Nat} {ls ls' : List (Option Value)} {st : List Value} {S : ma_S} {h : ma_H} (hJ : ma_J l g x scr mi P Q k ls st c sl S h) (hl : ma_le ls ls') : ma_J l g x scr mi P Q k ls' st c sl S h :=
  fun p e s m args below meth cd H locs la pc hB hw hL hp => hJ p e s m args below meth cd H locs la pc hB hw (hL.less hl) hp
def ma_len : Instr → Nat
  | .bipush _ | .ldc _ | .iload _ | .lload _ | .aload _ | .istore _ | .lstore _ | .astore _ | .newarray _ => 2
  | .sipush _ | .ldc_w _ | .ldc2_w _ | .iinc _ _ | .goto _ | .if_icmp _ _ | .ifCond _ _ | .getfield _ | .putfield _ | .anewarray _ | .new _ | .invokevirtual _ | .invokespecial _ | .invokestatic _ => 3
  | _ => 1
def ma_tc : FieldType → Nat
  | .int => 0
  | .long => 1
  | .object _ => 2
  | .array _ => 2
  | _ => 3
def ma_tgt (P : List ma_E) (pc : Nat) (off : Int) (t : Nat) : Bool := decide ((ma_pcAt P t).map (fun q : Nat => (q : Int)) = some ((pc : Int) + off))
/-- a field: its class's row, its own row, its link (0: plain, 1: a nest mate's), the link's place -/
def ma_okf (own : String) (idx : Nat) (aux : List Nat) : Bool := match ma_cl[ma_a aux 0]? with
  | some (C, T, N) => decide (ma_a aux 1 < N) && decide (((ma_ty (ma_a aux 0))[ma_a aux 1]?).map ma_tc = some (ma_a aux 2)) && decide (ma_a aux 2 ≤ 2) && decide ((T (ma_a aux 1)).1 = C) &&
    (if ma_a aux 3 = 0 then ma_has (ma_a aux 4) (Cond.fieldLink own idx C (T (ma_a aux 1)).2.1 (T (ma_a aux 1)).2.2.1) else match ma_nf[ma_a aux 4]? with
      | some q => decide (q.1 = own ∧ q.2.1 = idx ∧ q.2.2.1 = C ∧ q.2.2.2.1 = (T (ma_a aux 1)).2.1 ∧ q.2.2.2.2.1 = (T (ma_a aux 1)).2.2.1)
      | none => false)
  | none => false
def ma_okp (own mname : String) (aux : List Nat) : Bool := match ma_cl[ma_a aux 0]? with
  | some (_, T, _) => if (T (ma_a aux 1)).2.2.2 then decide (mname = "<init>") && decide ((T (ma_a aux 1)).1 = own) && decide (ma_a aux 3 = 0) else true
  | none => false
/-- a call: the callee's row, its room, its class among the words -/
def ma_okm (mi : ma_M) (t n wi : Nat) : Bool := match ma_mt[t]? with
  | some mj => decide ((parseMethodDescriptor mj.1.desc).map (fun d => d.parameters.length) = some n) && decide (mj.1.cls ≠ "java/lang/invoke/MethodHandle") && decide (mj.1.cls ≠ "java/lang/invoke/VarHandle") &&
    decide (mj.2.2.2.2.1 + 1 ≤ mi.2.2.2.2.1) && decide (8 + (mj.2.2.1 + 11) + (ma_rm mj).locals ≤ (ma_rm mi).locals) && ma_has wi (Cond.initialized mj.1.cls)
  | none => false
/-- a link to a method: plain, or a nest mate's -/
def ma_okl (own : String) (idx : Nat) (y : MethodName) (nest w : Nat) : Bool := if nest = 0 then ma_has w (Cond.methodLink own idx y) else match ma_nm[w]? with
  | some q => decide (q.1 = own ∧ q.2.1 = idx ∧ q.2.2.1 = y)
  | none => false
/-- [t, n, ci, nest, link, instance, selects, init] -/
def ma_okv (own : String) (idx : Nat) (aux : List Nat) : Bool := match ma_mt[ma_a aux 0]?, ma_cl[ma_a aux 2]? with
  | some mj, some (C, _, _) => decide (mj.1.cls = C) && ma_okl own idx mj.1 (ma_a aux 3) (ma_a aux 4) && ma_has (ma_a aux 5) (.instanceMethod mj.1) && ma_has (ma_a aux 6) (.selects mj.1.cls mj.1 mj.1)
  | _, _ => false
/-- [t, n, nest, link, instance, init] -/
def ma_oki (own : String) (idx : Nat) (aux : List Nat) : Bool := match ma_mt[ma_a aux 0]? with
  | some mj => decide (mj.1.name = "<init>") && decide (mj.2.2.2.1 = none) && ma_okl own idx mj.1 (ma_a aux 2) (ma_a aux 3) && ma_has (ma_a aux 4) (.instanceMethod mj.1)
  | none => false
/-- [t, n, nest, link, static, init] -/
def ma_oks (own : String) (idx : Nat) (aux : List Nat) : Bool := match ma_mt[ma_a aux 0]? with
  | some mj => ma_okl own idx mj.1 (ma_a aux 2) (ma_a aux 3) && ma_has (ma_a aux 4) (.static mj.1)
  | none => false
def ma_okx (mi : ma_M) (P : List ma_E) (k pc : Nat) (ins : Instr) (aux : List Nat) : Bool := match ins with
  | .iconst n => decide (Int32.ofInt n = ma_k aux)
  | .bipush n => decide ((Int8.ofInt n).toInt32 = ma_k aux)
  | .sipush n => decide ((Int16.ofInt n).toInt32 = ma_k aux)
  | .ldc i => ma_has (ma_a aux 2) (Jvm.Cond.constant mi.1.cls i (ma_k aux))
  | .ldc_w i => ma_has (ma_a aux 2) (Jvm.Cond.constant mi.1.cls i (ma_k aux))
  | .ldc2_w i => ma_has (ma_a aux 2) (Jvm.Cond.constantLong mi.1.cls i (lN (ma_a aux 0)))
  | .lconst n => decide (Int64.ofNat (n : Nat) = lN (ma_a aux 0))
  | .iinc _ n => decide (Int32.ofInt n = ma_k aux)
  | .goto off => ma_tgt P pc off (ma_a aux 0)
  | .if_icmp _ off => ma_tgt P pc off (ma_a aux 0)
  | .ifCond _ off => ma_tgt P pc off (ma_a aux 0)
  | .tableswitch d lo hi offs => decide (lo = 0) && decide (hi + 1 = (aux.tail.length : Int)) && decide (aux.tail.length < 1000) && ma_tgt P pc d (ma_a aux 0) && decide (offs.size = aux.tail.length) && (List.range aux.tail.length).all (fun i => ma_tgt P pc (offs.getD i 0) (aux.tail.getD i 0))
  | .getfield i => ma_okf mi.1.cls i aux
  | .putfield i => ma_okf mi.1.cls i aux && ma_okp mi.1.cls mi.1.name aux
  | .newarray aty => decide (aty = .int ∨ aty = .byte ∨ aty = .boolean ∨ aty = .long) && ma_has (ma_a aux 0) (Cond.arrayClass (newarray.typeOf aty))
  | .anewarray i => ma_has (ma_a aux 0) (Cond.classLink mi.1.cls i ma_row)
  | .new i => match ma_cl[ma_a aux 0]? with
    | some (C, _, N) => decide (N = ma_a aux 1) && ma_has (ma_a aux 2) (Cond.classLink mi.1.cls i C) && ma_has (ma_a aux 3) (Cond.instantiable C N) && ma_has (ma_a aux 4) (Cond.initialized C)
    | none => false
  | .invokevirtual i => ma_okm mi (ma_a aux 0) (ma_a aux 1) (ma_a aux 7) && ma_okv mi.1.cls i aux
  | .invokespecial i => if ma_a aux 0 = 0 then ma_has (ma_a aux 1) (Cond.methodLink mi.1.cls i Lib.objectInit) && ma_has (ma_a aux 2) (Cond.instanceMethod Lib.objectInit) && ma_has (ma_a aux 3) (Cond.code Lib.objectInit ⟨#[0xb1]⟩ 1 none) && decide (1 ≤ mi.2.2.2.2.1)
    else ma_okm mi (ma_a aux 0) (ma_a aux 1) (ma_a aux 5) && ma_oki mi.1.cls i aux
  | .invokestatic i => if ma_a aux 0 = 0 then ma_has (ma_a aux 1) (Cond.methodLink mi.1.cls i arraycopyName) && ma_has (ma_a aux 2) (Cond.native arraycopyName) && ma_has (ma_a aux 3) (Cond.static arraycopyName) && ma_has (ma_a aux 4) (Cond.initialized "java/lang/System") && decide (1 ≤ mi.2.2.2.2.1)
    else ma_okm mi (ma_a aux 0) (ma_a aux 1) (ma_a aux 5) && ma_oks mi.1.cls i aux
  | .ireturn => if ma_a aux 0 = 1 then decide (mi.2.2.2.1 = some .boolean) else decide (mi.2.2.2.1 = some .int)
  | .areturn => match mi.2.2.2.1 with
    | some (.object _) => true
    | some (.array _) => true
    | _ => false
  | .return_ => decide (mi.2.2.2.1 = none)
  | _ => true
/-- the instruction behind comes next -/
def ma_thru : Instr → Bool
  | .goto _ | .ireturn | .areturn | .return_ | .tableswitch _ _ _ _ | .athrow => false
  | _ => true
def ma_ok1 (mi : ma_M) (P : List ma_E) (k : Nat) (en : ma_E) : Bool :=
  decide (decode mi.2.1 en.1 = .ok (en.2.2.1, en.2.1)) && (match en.2.2.1 with
    | .tableswitch _ _ _ _ => true
    | i => decide (en.2.1 = ma_len i)) && (if ma_thru en.2.2.1 then decide (ma_pcAt P (k + 1) = some (en.1 + en.2.1)) else true) && ma_okx mi P k en.1 en.2.2.1 en.2.2.2
def ma_ok (mi : ma_M) (P : List ma_E) : Prop := ∀ k en, P[k]? = some en → ma_ok1 mi P k en = true
/-! the weakest precondition: from k on, up to the cuts -/
def ma_go (x : Bool) (scr : Option (Nat × (Nat → Int32))) (mc ms : Nat) (O : ma_O) (P : List ma_E) (Q : ma_P) (K : ma_K) : ma_K := fun k ls st c sl S h => match P[k]? with
  | some en => ma_x x scr mc ms O en.2.2.1 en.2.2.2 k ls st c sl S h K Q
  | none => False
def ma_wp (x : Bool) (scr : Option (Nat × (Nat → Int32))) (mc ms : Nat) (O : ma_O) (P : List ma_E) (Q : ma_P) (cuts : List Nat) (C : ma_K) : Nat → ma_K
  | 0 => fun _ _ _ _ _ _ _ => False
  | n + 1 => fun k ls st c sl S h => if k ∈ cuts then C k ls st c sl S h else ma_go x scr mc ms O P Q (ma_wp x scr mc ms O P Q cuts C n) k ls st c sl S h
def ma_okb (mi : ma_M) (P : List ma_E) : Bool := (List.range P.length).all (fun k => match P[k]? with
  | some en => ma_ok1 mi P k en
  | none => true)
theorem ma_ok_of {mi : ma_M} {P : List ma_E} (h : ma_okb mi P = true) : ma_ok mi P := by
  intro k en hk
  have h1 := List.all_eq_true.mp h k (List.mem_range.mpr (List.getElem?_eq_some_iff.mp hk).1)
  rw [hk] at h1
  exact h1
theorem ma_plain : ∀ (ci j : Nat) (hj : j < (ma_ty ci).length), ma_tc ((ma_ty ci)[j]) ≤ 2 := by
  have h : ∀ ci, (ma_ty ci).all (fun t => decide (ma_tc t ≤ 2)) = true := by
    intro ci
    match ci with
    | 0 => decide +kernel
    | 1 => decide +kernel
    | 2 => decide +kernel
    | 3 => decide +kernel
    | 4 => decide +kernel
    | 5 => decide +kernel
    | 6 => decide +kernel
    | 7 => decide +kernel
    | n + 8 => rfl
  intro ci j hj
  exact of_decide_eq_true (List.all_eq_true.mp (h ci) _ (List.getElem_mem hj))
