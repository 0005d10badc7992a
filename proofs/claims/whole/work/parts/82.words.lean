/-! the words of the start -/
theorem ar_pl {s : State} {args : Array Value} {ty : FieldType} (hty : ∀ C, ty ≠ .object C) (h : (Cond.arrayClass ty).before args s = true) : ∃ cA, ArrOfT s cA ty ∧ va_RA s cA ty := by
  obtain ⟨c, k, comp, h1, h2, h3⟩ := Cond.arrayClass_spec h
  refine ⟨c, fun n z => ⟨fun k h => (by cases h), k, h2, comp, h3⟩, ?_⟩
  cases ty with
  | object C => exact absurd rfl (hty C)
  | _ => exact h1
theorem ar_ob {s : State} {args : Array Value} {C : String} (h : (Cond.arrayOver (.object C)).before args s = true) : ∃ cA, ArrOfT s cA (.object C) ∧ va_RA s cA (.object C) := by
  obtain ⟨comp, c, k, f, -, hk, hkind, hname⟩ := Cond.arrayOver_spec h
  exact ⟨c, fun n z => ⟨fun k h => (by cases h), k, hk, comp, hkind⟩, k, comp, hk, hkind, f, hname⟩
def nf_ok : Bool := (List.range ma_nf.length).all (fun i => match ma_nf[i]?, ma_nfi[i]? with
  | some q, some j => decide (lw_tbl[j]? = some (Cond.fieldLinkNest q.1 q.2.1 q.2.2.1 q.2.2.2.1 q.2.2.2.2.1 q.2.2.2.2.2))
  | _, _ => false)
theorem nf_okd : nf_ok = true := by decide +kernel
def nm_ok : Bool := (List.range ma_nm.length).all (fun i => match ma_nm[i]?, ma_nmi[i]? with
  | some q, some j => decide (lw_tbl[j]? = some (Cond.methodLinkNest q.1 q.2.1 q.2.2.1 q.2.2.2))
  | _, _ => false)
theorem nm_okd : nm_ok = true := by decide +kernel
theorem nf_in {q : String × Nat × String × String × String × String} (h : q ∈ ma_nf) : Cond.fieldLinkNest q.1 q.2.1 q.2.2.1 q.2.2.2.1 q.2.2.2.2.1 q.2.2.2.2.2 ∈ lw_tbl := by
  obtain ⟨i, hi⟩ := List.getElem?_of_mem h
  have h1 := List.all_eq_true.mp nf_okd i (List.mem_range.mpr (List.getElem?_eq_some_iff.mp hi).1)
  rw [hi] at h1
  cases hj : ma_nfi[i]? with
  | none => rw [hj] at h1; cases h1
  | some j =>
    rw [hj] at h1
    exact List.mem_of_getElem? (of_decide_eq_true h1)
theorem nm_in {q : String × Nat × MethodName × String} (h : q ∈ ma_nm) : Cond.methodLinkNest q.1 q.2.1 q.2.2.1 q.2.2.2 ∈ lw_tbl := by
  obtain ⟨i, hi⟩ := List.getElem?_of_mem h
  have h1 := List.all_eq_true.mp nm_okd i (List.mem_range.mpr (List.getElem?_eq_some_iff.mp hi).1)
  rw [hi] at h1
  cases hj : ma_nmi[i]? with
  | none => rw [hj] at h1; cases h1
  | some j =>
    rw [hj] at h1
    exact List.mem_of_getElem? (of_decide_eq_true h1)
def in_ok : Bool := [(69, 0), (91, 1), (141, 2), (164, 3), (104, 4), (158, 5), (57, 6), (606, 7)].all (fun (j, c) => match ma_cl[c]? with
  | some q => decide (lw_tbl[j]? = some (Cond.instantiable q.1 q.2.2))
  | none => false)
theorem in_okd : in_ok = true := by decide +kernel
theorem in_at {j c : Nat} (hj : (j, c) ∈ [(69, 0), (91, 1), (141, 2), (164, 3), (104, 4), (158, 5), (57, 6), (606, 7)]) {q : vw_C} (hq : ma_cl[c]? = some q) : Cond.instantiable q.1 q.2.2 ∈ lw_tbl := by
  have h1 := List.all_eq_true.mp in_okd (j, c) hj
  dsimp only at h1
  rw [hq] at h1
  exact List.mem_of_getElem? (of_decide_eq_true h1)
theorem in_in {c : Nat} {q : vw_C} (hq : ma_cl[c]? = some q) : Cond.instantiable q.1 q.2.2 ∈ lw_tbl := by
  have hc : c < 8 := (List.getElem?_eq_some_iff.mp hq).1
  have : c = 0 ∨ c = 1 ∨ c = 2 ∨ c = 3 ∨ c = 4 ∨ c = 5 ∨ c = 6 ∨ c = 7 := by omega
  rcases this with rfl | rfl | rfl | rfl | rfl | rfl | rfl | rfl
  · exact in_at (j := 69) (by simp) hq
  · exact in_at (j := 91) (by simp) hq
  · exact in_at (j := 141) (by simp) hq
  · exact in_at (j := 164) (by simp) hq
  · exact in_at (j := 104) (by simp) hq
  · exact in_at (j := 158) (by simp) hq
  · exact in_at (j := 57) (by simp) hq
  · exact in_at (j := 606) (by simp) hq
set_option maxRecDepth 30000 in
theorem ac_int : Cond.arrayClass .int ∈ lw_tbl := List.mem_of_getElem? (i := 89) rfl
set_option maxRecDepth 30000 in
theorem ac_boolean : Cond.arrayClass .boolean ∈ lw_tbl := List.mem_of_getElem? (i := 139) rfl
set_option maxRecDepth 30000 in
theorem ac_byte : Cond.arrayClass .byte ∈ lw_tbl := List.mem_of_getElem? (i := 687) rfl
set_option maxRecDepth 30000 in
theorem ac_long : Cond.arrayClass .long ∈ lw_tbl := List.mem_of_getElem? (i := 811) rfl
def ao_ok : Bool := decide (Cond.arrayOver (.object ma_row) ∈ lw_tbl)
theorem ao_okd : ao_ok = true := by decide +kernel
theorem ao_row : Cond.arrayOver (.object ma_row) ∈ lw_tbl := of_decide_eq_true ao_okd
/-- what the machine rests on holds at the law's start -/
theorem KK_start {s : State} {b : Nat} (hts : ∀ w ∈ lw_tbl, w.before #[Value.ref b] s = true) : ∃ (D : va_G) (cls : FieldType → ClassId), ∀ b' base : Nat, ma_KK (D, b', base, cls) s := by
  have hD : ∀ c : Nat, ∃ d : ClassId × (Nat → Nat), ∀ q, ma_cl[c]? = some q → u_Kn s q.1 q.2.1 q.2.2 d.1 d.2 := by
    intro c
    cases hq : ma_cl[c]? with
    | none => exact ⟨(0, fun _ => 0), fun q h => by cases h⟩
    | some q =>
      obtain ⟨C, T, N⟩ := q
      obtain ⟨cC, iS, h⟩ := u_known (C := C) (T := T) (N := N) hts (fun w hw => ma_wdin w ((ma_clok hq).2.2.2 w hw)) (hts _ (in_in hq))
      exact ⟨(cC, iS), fun q h' => by cases h'; exact h⟩
  obtain ⟨f, hf⟩ := Classical.axiomOfChoice hD
  obtain ⟨cI, i1, i2⟩ := ar_pl (ty := .int) (fun C h => by cases h) (hts _ ac_int)
  obtain ⟨cB, b1, b2⟩ := ar_pl (ty := .byte) (fun C h => by cases h) (hts _ ac_byte)
  obtain ⟨cZ, z1, z2⟩ := ar_pl (ty := .boolean) (fun C h => by cases h) (hts _ ac_boolean)
  obtain ⟨cL, l1, l2⟩ := ar_pl (ty := .long) (fun C h => by cases h) (hts _ ac_long)
  obtain ⟨cR, r1, r2⟩ := ar_ob (C := ma_row) (hts _ ao_row)
  refine ⟨(fun c => (f c).1, fun c => (f c).2), fun ty => match ty with
    | .int => cI
    | .byte => cB
    | .boolean => cZ
    | .long => cL
    | _ => cR, fun b' base => ⟨⟨fun c q hq => hf c q hq, fun k q hq => ?_⟩, fun q hq => hts _ (nf_in hq), fun q hq => hts _ (nm_in hq), hts _ ao_row⟩⟩
  match k, hq with
  | 0, hq => cases hq; exact ⟨i1, i2⟩
  | 1, hq => cases hq; exact ⟨b1, b2⟩
  | 2, hq => cases hq; exact ⟨z1, z2⟩
  | 3, hq => cases hq; exact ⟨l1, l2⟩
  | 4, hq => cases hq; exact ⟨r1, r2⟩
  | k + 5, hq => cases hq
