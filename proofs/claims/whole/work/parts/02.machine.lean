/-! The pure machine: values whose references are logical (0: null, 1: the script, p + 2: the cell p of the world), a heap of three total functions, a step as a predicate transformer. Sound over the kit's rows. -/
abbrev ma_H : Type := (Nat → Nat → Int32) × (Nat → Nat → Int64) × (Nat → Nat → Nat)
abbrev ma_S : Type := List (Nat ⊕ (FieldType × Nat))
/-- (D, address of the script, base, array classes) -/
abbrev ma_G : Type := va_G × Nat × Nat × (FieldType → ClassId)
/-- (name, code, locals, return type, depth, cells, slots) -/
abbrev ma_M : Type := MethodName × ByteArray × Nat × Option FieldType × Nat × Nat × Nat
/-- (pc, length, instruction, what it resolves to) -/
abbrev ma_E : Type := Nat × Nat × Instr × List Nat
abbrev ma_P : Type := Option Value → ma_S → ma_H → Prop
abbrev ma_K : Type := Nat → List (Option Value) → List Value → Nat → Nat → ma_S → ma_H → Prop
abbrev ma_O : Type := Nat → Nat → Nat → List Value → ma_S → ma_H → ma_P → Prop
def ma_ro (g : ma_G) : Nat → Option Nat
  | 0 => none
  | 1 => some g.2.1
  | p + 2 => some (g.2.2.1 + p)
def ma_tv (g : ma_G) : Value → Value
  | .ref p => va_rf (ma_ro g p)
  | v => v
theorem ma_tv_cat (g : ma_G) (v : Value) : (ma_tv g v).category = v.category := by
  cases v with
  | ref p =>
    show (va_rf (ma_ro g p)).category = 1
    cases ma_ro g p <;> rfl
  | _ => rfl
def ma_uI (h : ma_H) (a k : Nat) (v : Int32) : ma_H := (fun a' k' => if a' = a ∧ k' = k then v else h.1 a' k', h.2)
def ma_uL (h : ma_H) (a k : Nat) (v : Int64) : ma_H := (h.1, fun a' k' => if a' = a ∧ k' = k then v else h.2.1 a' k', h.2.2)
def ma_uR (h : ma_H) (a k : Nat) (v : Nat) : ma_H := (h.1, h.2.1, fun a' k' => if a' = a ∧ k' = k then v else h.2.2 a' k')
def ma_z (h : ma_H) (a : Nat) : ma_H := (fun a' k' => if a' = a then 0 else h.1 a' k', fun a' k' => if a' = a then 0 else h.2.1 a' k', fun a' k' => if a' = a then 0 else h.2.2 a' k')
/-- n ints of the array a0 from the place sp on to the array a from dp on -/
def ma_cp (h : ma_H) (a0 sp a dp n : Nat) : ma_H := (fun a' k' => if a' = a ∧ dp ≤ k' ∧ k' < dp + n then h.1 a0 (sp + (k' - dp)) else h.1 a' k', h.2)
def ma_fv (g : ma_G) (h : ma_H) (a k : Nat) : FieldType → Value
  | .long => .long (h.2.1 a k)
  | .object _ => va_rf (ma_ro g (h.2.2 a k))
  | .array _ => va_rf (ma_ro g (h.2.2 a k))
  | _ => .int (h.1 a k)
def ma_cont (g : ma_G) (h : ma_H) (a : Nat) : FieldType → (Nat → Int32) ⊕ (Nat → Int64) ⊕ (Nat → UInt32) ⊕ (Nat → UInt64) ⊕ (Nat → Option Nat)
  | .long => .inr (.inl (h.2.1 a))
  | .object _ => .inr (.inr (.inr (.inr (fun i => ma_ro g (h.2.2 a i)))))
  | _ => .inl (h.1 a)
def ma_cell (g : ma_G) (h : ma_H) (a : Nat) : (Nat ⊕ (FieldType × Nat)) → va_E
  | .inl ci => .inr (ci, (ma_ty ci).mapIdx (fun k ty => ma_fv g h a k ty))
  | .inr (ty, n) => .inl (g.2.2.2 ty, n, ma_cont g h a ty)
def ma_ws (g : ma_G) (S : ma_S) (h : ma_H) : va_W := S.mapIdx (fun i sh => (g.2.2.1 + i, ma_cell g h (i + 2) sh))
theorem ma_ws_at (g : ma_G) (S : ma_S) (h : ma_H) (i : Nat) : (ma_ws g S h)[i]? = (S[i]?).map (fun sh => (g.2.2.1 + i, ma_cell g h (i + 2) sh)) := by
  simp [ma_ws]
theorem ma_D (g : ma_G) (S : ma_S) (h : ma_H) : va_D (fun q => g.2.2.1 ≤ q) (ma_ws g S h) := by
  refine ⟨fun i j p q hp hq he => ?_, fun k q hk => ?_⟩
  · rw [ma_ws_at] at hp hq
    obtain ⟨a, -, rfl⟩ := Option.map_eq_some_iff.mp hp
    obtain ⟨b, -, rfl⟩ := Option.map_eq_some_iff.mp hq
    simpa using he
  · rw [ma_ws_at] at hk
    obtain ⟨a, -, rfl⟩ := Option.map_eq_some_iff.mp hk
    simp
def ma_sh (S : ma_S) : Nat → Option (Nat ⊕ (FieldType × Nat))
  | a + 2 => S[a]?
  | _ => none
theorem ma_sh_some {S : ma_S} {a : Nat} {sh : Nat ⊕ (FieldType × Nat)} (h : ma_sh S a = some sh) : ∃ i, a = i + 2 ∧ S[i]? = some sh := by
  match a, h with
  | i + 2, h => exact ⟨i, rfl, h⟩
/-- a cell is set: the list of the cells is set -/
theorem ma_ws_set (g : ma_G) (S : ma_S) (h h' : ma_H) (i : Nat) {sh : Nat ⊕ (FieldType × Nat)} (hs : S[i]? = some sh) {e : va_E} (he : ma_cell g h' (i + 2) sh = e) (ho : ∀ j sh', j ≠ i → S[j]? = some sh' → ma_cell g h' (j + 2) sh' = ma_cell g h (j + 2) sh') : (ma_ws g S h).set i (g.2.2.1 + i, e) = ma_ws g S h' := by
  apply List.ext_getElem?
  intro j
  rw [ma_ws_at, List.getElem?_set, ma_ws_at]
  have hl : i < S.length := (List.getElem?_eq_some_iff.mp hs).1
  by_cases hj : i = j
  · subst hj
    rw [if_pos rfl, if_pos (by simp [ma_ws]; exact hl), hs]
    simp [he]
  · rw [if_neg hj]
    cases hsj : S[j]? with
    | none => rfl
    | some sh' => simp [ho j sh' (fun q => hj q.symm) hsj]
theorem ma_cell_other {g : ma_G} {h h' : ma_H} {a : Nat} (h1 : ∀ k, h'.1 a k = h.1 a k) (h2 : ∀ k, h'.2.1 a k = h.2.1 a k) (h3 : ∀ k, h'.2.2 a k = h.2.2 a k) (sh : Nat ⊕ (FieldType × Nat)) : ma_cell g h' a sh = ma_cell g h a sh := by
  have e1 : h'.1 a = h.1 a := funext h1
  have e2 : h'.2.1 a = h.2.1 a := funext h2
  have e3 : h'.2.2 a = h.2.2 a := funext h3
  have ef : ∀ k ty, ma_fv g h' a k ty = ma_fv g h a k ty := by
    intro k ty
    cases ty <;> simp [ma_fv, e1, e2, e3]
  have ec : ∀ ty, ma_cont g h' a ty = ma_cont g h a ty := by
    intro ty
    cases ty <;> simp [ma_cont, e1, e2, e3]
  match sh with
  | .inl ci => simp [ma_cell, ef]
  | .inr (ty, n) => simp [ma_cell, ec]
/-! the locals -/
def ma_L (g : ma_G) (n : Nat) (la : Array Slot) (ls : List (Option Value)) : Prop := la.size = n ∧ lv_wf la ∧ ls.length = n ∧ ∀ (i : Nat) (v : Value), ls[i]? = some (some v) → la[i]? = some (.val (ma_tv g v))
def ma_kn (g : ma_G) : Nat → List (Option Value) → List (Nat × Value)
  | _, [] => []
  | i, none :: t => ma_kn g (i + 1) t
  | i, some v :: t => (i, ma_tv g v) :: ma_kn g (i + 1) t
theorem ma_kn_mem (g : ma_G) : ∀ (ls : List (Option Value)) (i : Nat) (q : Nat × Value), q ∈ ma_kn g i ls ↔ ∃ k v, ls[k]? = some (some v) ∧ q = (i + k, ma_tv g v)
  | [], i, q => by simp [ma_kn]
  | none :: t, i, q => by
    rw [ma_kn, ma_kn_mem g t]
    constructor
    · rintro ⟨k, v, h1, h2⟩
      exact ⟨k + 1, v, by simpa using h1, by rw [h2, show i + 1 + k = i + (k + 1) by omega]⟩
    · rintro ⟨k, v, h1, h2⟩
      cases k with
      | zero => simp at h1
      | succ k => exact ⟨k, v, by simpa using h1, by rw [h2, show i + 1 + k = i + (k + 1) by omega]⟩
  | some w :: t, i, q => by
    rw [ma_kn, List.mem_cons, ma_kn_mem g t]
    constructor
    · rintro (h | ⟨k, v, h1, h2⟩)
      · exact ⟨0, w, rfl, by rw [h]; rfl⟩
      · exact ⟨k + 1, v, by simpa using h1, by rw [h2, show i + 1 + k = i + (k + 1) by omega]⟩
    · rintro ⟨k, v, h1, h2⟩
      cases k with
      | zero =>
        simp at h1
        subst h1
        exact Or.inl h2
      | succ k => exact Or.inr ⟨k, v, by simpa using h1, by rw [h2, show i + 1 + k = i + (k + 1) by omega]⟩
theorem ma_L.has {g : ma_G} {n : Nat} {la : Array Slot} {ls : List (Option Value)} (h : ma_L g n la ls) : lv_has la n (ma_kn g 0 ls) := by
  refine ⟨h.1, h.2.1, fun q hq => ?_⟩
  obtain ⟨k, v, h1, h2⟩ := (ma_kn_mem g ls 0 q).mp hq
  rw [h2]
  simpa using h.2.2.2 k v h1
def ma_kill (ls : List (Option Value)) : Nat → List (Option Value)
  | 0 => ls
  | j + 1 => match ls[j]? with
    | some (some v) => if v.category = 2 then ls.set j none else ls
    | _ => ls
def ma_set1 (ls : List (Option Value)) (i : Nat) (v : Value) : List (Option Value) := (ma_kill ls i).set i (some v)
def ma_set2 (ls : List (Option Value)) (i : Nat) (v : Value) : List (Option Value) := ((ma_kill ls i).set i (some v)).set (i + 1) none
theorem ma_kill_len (ls : List (Option Value)) (i : Nat) : (ma_kill ls i).length = ls.length := by
  unfold ma_kill
  split
  · rfl
  · split
    · split <;> simp
    · rfl
theorem ma_kill_at {ls : List (Option Value)} {i j : Nat} {v : Value} (h : (ma_kill ls i)[j]? = some (some v)) : ls[j]? = some (some v) ∧ ¬ (j + 1 = i ∧ v.category = 2) := by
  unfold ma_kill at h
  split at h
  · exact ⟨h, fun q => by omega⟩
  · rename_i i' 
    split at h
    · rename_i w hw
      split at h
      · rename_i hc
        rw [List.getElem?_set] at h
        by_cases hj : i' = j
        · subst hj
          rw [if_pos rfl] at h
          split at h <;> simp at h
        · rw [if_neg hj] at h
          exact ⟨h, fun q => hj (by omega)⟩
      · rename_i hc
        refine ⟨h, fun q => hc ?_⟩
        have : j = i' := by omega
        subst this
        rw [hw] at h
        simp at h
        rw [h]
        exact q.2
    · rename_i hn
      refine ⟨h, fun q => ?_⟩
      have : j = i' := by omega
      subst this
      exact hn v h
theorem ma_L.set1 {g : ma_G} {n : Nat} {la la' : Array Slot} {ls : List (Option Value)} {i : Nat} {v : Value} (h : ma_L g n la ls) (h' : lv_has la' n ((i, ma_tv g v) :: (ma_kn g 0 ls).filter (fun q => !(q.1 == i) && !(q.1 + 1 == i && q.2.category == 2)))) : ma_L g n la' (ma_set1 ls i v) := by
  refine ⟨h'.1, h'.2.1, by rw [ma_set1, List.length_set, ma_kill_len]; exact h.2.2.1, fun j w hj => ?_⟩
  rw [ma_set1, List.getElem?_set] at hj
  by_cases hij : i = j
  · subst hij
    rw [if_pos rfl] at hj
    split at hj
    · simp at hj
      subst hj
      exact h'.2.2 _ List.mem_cons_self
    · simp at hj
  · rw [if_neg hij] at hj
    obtain ⟨h1, h2⟩ := ma_kill_at hj
    refine h'.2.2 (j, ma_tv g w) (List.mem_cons_of_mem _ (List.mem_filter.mpr ⟨(ma_kn_mem g ls 0 _).mpr ⟨j, w, h1, by simp⟩, ?_⟩))
    simp only [ma_tv_cat]
    simp
    refine ⟨fun q => hij q.symm, ?_⟩
    by_cases hq : j + 1 = i
    · exact Or.inr (fun q2 => h2 ⟨hq, q2⟩)
    · exact Or.inl hq
theorem ma_L.set2 {g : ma_G} {n : Nat} {la la' : Array Slot} {ls : List (Option Value)} {i : Nat} {v : Value} (h : ma_L g n la ls) (h' : lv_has la' n ((i, ma_tv g v) :: (ma_kn g 0 ls).filter (fun q => !(q.1 == i) && (!(q.1 == i + 1) && !(q.1 + 1 == i && q.2.category == 2))))) : ma_L g n la' (ma_set2 ls i v) := by
  refine ⟨h'.1, h'.2.1, by rw [ma_set2, List.length_set, List.length_set, ma_kill_len]; exact h.2.2.1, fun j w hj => ?_⟩
  rw [ma_set2, List.getElem?_set] at hj
  by_cases hi1 : i + 1 = j
  · rw [if_pos hi1] at hj
    split at hj <;> simp at hj
  · rw [if_neg hi1, List.getElem?_set] at hj
    by_cases hij : i = j
    · subst hij
      rw [if_pos rfl] at hj
      split at hj
      · simp at hj
        subst hj
        exact h'.2.2 _ List.mem_cons_self
      · simp at hj
    · rw [if_neg hij] at hj
      obtain ⟨h1, h2⟩ := ma_kill_at hj
      refine h'.2.2 (j, ma_tv g w) (List.mem_cons_of_mem _ (List.mem_filter.mpr ⟨(ma_kn_mem g ls 0 _).mpr ⟨j, w, h1, by simp⟩, ?_⟩))
      simp only [ma_tv_cat]
      simp
      refine ⟨fun q => hij q.symm, fun q => hi1 q.symm, ?_⟩
      by_cases hq : j + 1 = i
      · exact Or.inr (fun q2 => h2 ⟨hq, q2⟩)
      · exact Or.inl hq
/-- less is known -/
def ma_le : List (Option Value) → List (Option Value) → Prop
  | [], [] => True
  | none :: t, _ :: t' => ma_le t t'
  | some v :: t, some w :: t' => v = w ∧ ma_le t t'
  | _, _ => False
theorem ma_le_at : ∀ {ls ls' : List (Option Value)}, ma_le ls ls' → ls.length = ls'.length ∧ ∀ (i : Nat) (v : Value), ls[i]? = some (some v) → ls'[i]? = some (some v)
  | [], [], _ => ⟨rfl, fun i v h => by simp at h⟩
  | none :: t, _ :: t', h => by
    have ih := ma_le_at (ls := t) (ls' := t') h
    refine ⟨by simp [ih.1], fun i v hi => ?_⟩
    cases i with
    | zero => simp at hi
    | succ i => simpa using ih.2 i v (by simpa using hi)
  | some a :: t, some b :: t', h => by
    have ih := ma_le_at (ls := t) (ls' := t') h.2
    refine ⟨by simp [ih.1], fun i v hi => ?_⟩
    cases i with
    | zero =>
      simp at hi ⊢
      rw [← h.1]
      exact hi
    | succ i => simpa using ih.2 i v (by simpa using hi)
  | [], _ :: _, h => h.elim
  | some _ :: _, [], h => h.elim
  | some _ :: _, none :: _, h => h.elim
  | none :: _, [], h => h.elim
theorem ma_L.less {g : ma_G} {n : Nat} {la : Array Slot} {ls ls' : List (Option Value)} (h : ma_L g n la ls') (hl : ma_le ls ls') : ma_L g n la ls :=
  ⟨h.1, h.2.1, (ma_le_at hl).1.trans h.2.2.1, fun i v hi => h.2.2.2 i v ((ma_le_at hl).2 i v hi)⟩
/-! what holds of the tables in every state -/
def ma_tl (g : ma_G) : List (ClassId × FieldType) := [(g.2.2.2 .int, .int), (g.2.2.2 .byte, .byte), (g.2.2.2 .boolean, .boolean), (g.2.2.2 .long, .long), (g.2.2.2 (.object ma_row), .object ma_row)]
def ma_KK (g : ma_G) (U : State) : Prop := va_K g.1 ma_cl (ma_tl g) U ∧ (∀ q ∈ ma_nf, va_Nw (.fieldLinkNest q.1 q.2.1 q.2.2.1 q.2.2.2.1 q.2.2.2.2.1 q.2.2.2.2.2) U) ∧ (∀ q ∈ ma_nm, va_Nw (.methodLinkNest q.1 q.2.1 q.2.2.1 q.2.2.2) U) ∧ va_AO ma_row U
theorem ma_KK.moved {g : ma_G} {s U : State} (hW : s.WarmedH U.vm) (h : ma_KK g s) : ma_KK g U :=
  ⟨va_K.moved hW.alike h.1, fun q hq => va_Nw.warmF hW (h.2.1 q hq), fun q hq => va_Nw.warmM hW (h.2.2.1 q hq), va_AO.moved hW.alike h.2.2.2⟩
theorem ma_KK.same {g : ma_G} {s U : State} (hv : s.vm = U.vm) (h : ma_KK g s) : ma_KK g U :=
  ⟨va_K.moved (by rw [hv]; exact Vm.Alike.refl U.vm) h.1, fun q hq => va_Nw.same rfl hv (h.2.1 q hq), fun q hq => va_Nw.same rfl hv (h.2.2.1 q hq), va_AO.moved (by rw [hv]; exact Vm.Alike.refl U.vm) h.2.2.2⟩
def ma_wo (mi : ma_M) : List Cond := Cond.code mi.1 mi.2.1 mi.2.2.1 mi.2.2.2.1 :: ma_wd
def ma_rm (mi : ma_M) : Room := { frames := mi.2.2.2.2.1, cells := mi.2.2.2.2.2.1, slots := mi.2.2.2.2.2.2, locals := min (50 * mi.2.2.2.2.1) 338 }
/-- the world at a heap -/
def ma_at (g : ma_G) (x : Bool) (S : ma_S) (h : ma_H) (H : Heap) : Prop := va_P g.1 ma_cl (ma_ws g S h) H ∧ (x = true → H.size = g.2.2.1 + S.length)
def ma_Qc (g : ma_G) (x : Bool) (mc : Nat) (Q : ma_P) : Array Value → State → Outcome → State → Prop := fun _ st oc t =>
  (∃ (v : Option Value) (S : ma_S) (h : ma_H), oc = .returned (v.map (ma_tv g)) ∧ Q v S h ∧ ma_at g x S h t.heap) ∧ va_F (fun q => g.2.2.1 ≤ q) st t ∧ (x = true → t.heap.size = st.heap.size + mc)
def ma_Pc (g : ma_G) (x : Bool) (av : List Value) (S : ma_S) (h : ma_H) : Array Value → State → Prop := va_Pc (av.map (ma_tv g)) (fun U => ma_at g x S h U.heap ∧ g.2.2.1 ≤ U.heap.size ∧ ma_KK g U)
/-- the contract of a method -/
def ma_PM (l : Launch) (g : ma_G) (x : Bool) (mi : ma_M) (av : List Value) (S : ma_S) (h : ma_H) (Q : ma_P) : Prop :=
  Met l mi.1 (ma_wo mi) (ma_rm mi) (ma_Pc g x av S h) (ma_Qc g x mi.2.2.2.2.2.1 Q) mi.2.2.2.2.2.1 mi.2.2.2.2.2.2 (fun q => g.2.2.1 ≤ q)
/-- the methods by their numbers -/
def ma_or (l : Launch) (g : ma_G) (x : Bool) : ma_O := fun t mc ms av S h Q => ∃ mi, ma_mt[t]? = some mi ∧ mi.2.2.2.2.2.1 = mc ∧ mi.2.2.2.2.2.2 = ms ∧ ma_PM l g x mi av S h Q
theorem ma_blind (g : ma_G) (x : Bool) (av : List Value) (S : ma_S) (h : ma_H) : FrameBlind (ma_Pc g x av S h) := by
  intro a U f mk q
  obtain ⟨q0, q1, q2, q3⟩ := q
  exact ⟨q0, q1, q2, ma_KK.same (s := U) (U := U.calling f mk a) rfl q3⟩
/-! a step -/
def ma_a (aux : List Nat) (i : Nat) : Nat := aux.getD i 0
def ma_k (aux : List Nat) : Int32 := if ma_a aux 1 = 1 then -1 else nI (ma_a aux 0)
def ma_ii (st : List Value) (F : Int32 → Int32 → List Value → Prop) : Prop := match st with
  | .int y :: .int z :: st => F z y st
  | _ => False
def ma_ll (st : List Value) (F : Int64 → Int64 → List Value → Prop) : Prop := match st with
  | .long y :: .long z :: st => F z y st
  | _ => False
def ma_li (st : List Value) (F : Int64 → Int32 → List Value → Prop) : Prop := match st with
  | .int y :: .long z :: st => F z y st
  | _ => False
def ma_i1 (st : List Value) (F : Int32 → List Value → Prop) : Prop := match st with
  | .int z :: st => F z st
  | _ => False
def ma_l1 (st : List Value) (F : Int64 → List Value → Prop) : Prop := match st with
  | .long z :: st => F z st
  | _ => False
def ma_r1 (st : List Value) (F : Nat → List Value → Prop) : Prop := match st with
  | .ref z :: st => F z st
  | _ => False
def ma_gi (ls : List (Option Value)) (i : Nat) (F : Int32 → Prop) : Prop := match ls[i]? with
  | some (some (.int z)) => F z
  | _ => False
def ma_gl (ls : List (Option Value)) (i : Nat) (F : Int64 → Prop) : Prop := match ls[i]? with
  | some (some (.long z)) => F z
  | _ => False
def ma_gr (ls : List (Option Value)) (i : Nat) (F : Nat → Prop) : Prop := match ls[i]? with
  | some (some (.ref z)) => F z
  | _ => False
def ma_irem (z y : Int32) : Int32 := z - z / y * y
def ma_lrem (z y : Int64) : Int64 := z - z / y * y
def ma_shl (z y : Int32) : Int32 := z <<< (y &&& 31)
def ma_shr (z y : Int32) : Int32 := z >>> (y &&& 31)
def ma_ushr (z y : Int32) : Int32 := (z.toUInt32 >>> (y.toUInt32 &&& Int32.toUInt32 31)).toInt32
def ma_lshl (z : Int64) (y : Int32) : Int64 := z <<< (y.toInt64 &&& 63)
def ma_lushr (z : Int64) (y : Int32) : Int64 := (z.toUInt64 >>> (y.toInt64.toUInt64 &&& Int64.toUInt64 63)).toInt64
def ma_bc (cnd : ClassFile.Cond) (z y : Int32) (A B : Prop) : Prop := match cnd with
  | .eq => (z = y → A) ∧ (¬ z = y → B)
  | .ne => (¬ z = y → A) ∧ (z = y → B)
  | .lt => (z < y → A) ∧ (¬ z < y → B)
  | .ge => (y ≤ z → A) ∧ (¬ y ≤ z → B)
  | .gt => (y < z → A) ∧ (¬ y < z → B)
  | .le => (z ≤ y → A) ∧ (¬ z ≤ y → B)
def ma_pv (h : ma_H) (a k : Nat) : Nat → Value
  | 0 => .int (h.1 a k)
  | 1 => .long (h.2.1 a k)
  | _ => .ref (h.2.2 a k)
def ma_put (h : ma_H) (a k : Nat) (v : Value) : ma_H := match v with
  | .int z => ma_uI h a k z
  | .long z => ma_uL h a k z
  | .ref z => ma_uR h a k z
  | _ => h
def ma_vc (v : Value) : Nat := match v with
  | .int _ => 0
  | .long _ => 1
  | .ref _ => 2
  | _ => 9
def ma_in (S : ma_S) (a : Nat) (ty : FieldType) (i : Int32) : Prop := ∃ n, ma_sh S a = some (.inr (ty, n)) ∧ vp_in i n
def ma_pop : Nat → List Value → List Value → Option (List Value × List Value)
  | 0, st, acc => some (acc, st)
  | n + 1, v :: st, acc => ma_pop n st (v :: acc)
  | _ + 1, [], _ => none
def ma_cat : List Value → Nat
  | [] => 0
  | v :: st => v.category + ma_cat st
def ma_sw (v : Int32) (F : Nat → Prop) : Nat → List Nat → Prop
  | _, [] => True
  | i, t :: ts => (v = nI i → F t) ∧ ma_sw v F (i + 1) ts
def ma_call (mc ms : Nat) (O : ma_O) (t : Nat) (av rest : List Value) (c sl : Nat) (S : ma_S) (h : ma_H) (F : List Value → Nat → Nat → ma_S → ma_H → Prop) : Prop :=
  ma_cat rest ≤ 8 ∧ ∃ (mc' ms' : Nat) (post : ma_P), O t mc' ms' av S h post ∧ c + mc' ≤ mc ∧ sl + ms' ≤ ms ∧ ∀ v S' h', post v S' h' → F (v.toList ++ rest) (c + mc') (sl + ms') S' h'
def ma_x (x : Bool) (scr : Option (Nat × (Nat → Int32))) (mc ms : Nat) (O : ma_O) (ins : Instr) (aux : List Nat) (k : Nat) (ls : List (Option Value)) (st : List Value) (c sl : Nat) (S : ma_S) (h : ma_H) (K : ma_K) (Q : ma_P) : Prop :=
  match ins with
  | .iconst _ | .bipush _ | .sipush _ | .ldc _ | .ldc_w _ => K (k + 1) ls (.int (ma_k aux) :: st) c sl S h
  | .lconst _ | .ldc2_w _ => K (k + 1) ls (.long (lN (ma_a aux 0)) :: st) c sl S h
  | .iload i => ma_gi ls i fun z => K (k + 1) ls (.int z :: st) c sl S h
  | .iload_n i => ma_gi ls i fun z => K (k + 1) ls (.int z :: st) c sl S h
  | .lload i => ma_gl ls i fun z => K (k + 1) ls (.long z :: st) c sl S h
  | .lload_n i => ma_gl ls i fun z => K (k + 1) ls (.long z :: st) c sl S h
  | .aload i => ma_gr ls i fun z => K (k + 1) ls (.ref z :: st) c sl S h
  | .aload_n i => ma_gr ls i fun z => K (k + 1) ls (.ref z :: st) c sl S h
  | .istore i => ma_i1 st fun z st => i < ls.length ∧ K (k + 1) (ma_set1 ls i (.int z)) st c sl S h
  | .istore_n i => ma_i1 st fun z st => i < ls.length ∧ K (k + 1) (ma_set1 ls i (.int z)) st c sl S h
  | .astore i => ma_r1 st fun z st => i < ls.length ∧ K (k + 1) (ma_set1 ls i (.ref z)) st c sl S h
  | .astore_n i => ma_r1 st fun z st => i < ls.length ∧ K (k + 1) (ma_set1 ls i (.ref z)) st c sl S h
  | .lstore i => ma_l1 st fun z st => i + 1 < ls.length ∧ K (k + 1) (ma_set2 ls i (.long z)) st c sl S h
  | .lstore_n i => ma_l1 st fun z st => (i : Nat) + 1 < ls.length ∧ K (k + 1) (ma_set2 ls i (.long z)) st c sl S h
  | .iinc i _ => ma_gi ls i fun z => K (k + 1) (ma_set1 ls i (.int (z + ma_k aux))) st c sl S h
  | .iadd => ma_ii st fun z y st => K (k + 1) ls (.int (z + y) :: st) c sl S h
  | .isub => ma_ii st fun z y st => K (k + 1) ls (.int (z - y) :: st) c sl S h
  | .imul => ma_ii st fun z y st => K (k + 1) ls (.int (z * y) :: st) c sl S h
  | .iand => ma_ii st fun z y st => K (k + 1) ls (.int (z &&& y) :: st) c sl S h
  | .ior => ma_ii st fun z y st => K (k + 1) ls (.int (z ||| y) :: st) c sl S h
  | .ixor => ma_ii st fun z y st => K (k + 1) ls (.int (z ^^^ y) :: st) c sl S h
  | .idiv => ma_ii st fun z y st => ¬ y = 0 ∧ K (k + 1) ls (.int (z / y) :: st) c sl S h
  | .irem => ma_ii st fun z y st => ¬ y = 0 ∧ K (k + 1) ls (.int (ma_irem z y) :: st) c sl S h
  | .ishl => ma_ii st fun z y st => K (k + 1) ls (.int (ma_shl z y) :: st) c sl S h
  | .ishr => ma_ii st fun z y st => K (k + 1) ls (.int (ma_shr z y) :: st) c sl S h
  | .iushr => ma_ii st fun z y st => K (k + 1) ls (.int (ma_ushr z y) :: st) c sl S h
  | .ladd => ma_ll st fun z y st => K (k + 1) ls (.long (z + y) :: st) c sl S h
  | .lmul => ma_ll st fun z y st => K (k + 1) ls (.long (z * y) :: st) c sl S h
  | .land => ma_ll st fun z y st => K (k + 1) ls (.long (z &&& y) :: st) c sl S h
  | .lor => ma_ll st fun z y st => K (k + 1) ls (.long (z ||| y) :: st) c sl S h
  | .ldiv => ma_ll st fun z y st => ¬ y = 0 ∧ K (k + 1) ls (.long (z / y) :: st) c sl S h
  | .lrem => ma_ll st fun z y st => ¬ y = 0 ∧ K (k + 1) ls (.long (ma_lrem z y) :: st) c sl S h
  | .lcmp => ma_ll st fun z y st => K (k + 1) ls (.int (lg_cmp z y) :: st) c sl S h
  | .lshl => ma_li st fun z y st => K (k + 1) ls (.long (ma_lshl z y) :: st) c sl S h
  | .lushr => ma_li st fun z y st => K (k + 1) ls (.long (ma_lushr z y) :: st) c sl S h
  | .i2l => ma_i1 st fun z st => K (k + 1) ls (.long z.toInt64 :: st) c sl S h
  | .l2i => ma_l1 st fun z st => K (k + 1) ls (.int z.toInt32 :: st) c sl S h
  | .i2b => ma_i1 st fun z st => K (k + 1) ls (.int z.toInt8.toInt32 :: st) c sl S h
  | .goto _ => K (ma_a aux 0) ls st c sl S h
  | .if_icmp cnd _ => ma_ii st fun z y st => ma_bc cnd z y (K (ma_a aux 0) ls st c sl S h) (K (k + 1) ls st c sl S h)
  | .ifCond cnd _ => ma_i1 st fun z st => ma_bc cnd z (nI 0) (K (ma_a aux 0) ls st c sl S h) (K (k + 1) ls st c sl S h)
  | .tableswitch _ _ _ _ => ma_i1 st fun z st => ma_sw z (fun t => K t ls st c sl S h) 0 aux.tail ∧ (¬ vp_in z aux.tail.length → K (ma_a aux 0) ls st c sl S h)
  | .dup => match st with
    | v :: st => v.category = 1 ∧ K (k + 1) ls (v :: v :: st) c sl S h
    | _ => False
  | .dup2 => match st with
    | v :: w :: st => v.category = 1 ∧ w.category = 1 ∧ K (k + 1) ls (v :: w :: v :: w :: st) c sl S h
    | _ => False
  | .pop => match st with
    | v :: st => v.category = 1 ∧ K (k + 1) ls st c sl S h
    | _ => False
  | .getfield _ => ma_r1 st fun a st => ma_sh S a = some (.inl (ma_a aux 0)) ∧ K (k + 1) ls (ma_pv h a (ma_a aux 1) (ma_a aux 2) :: st) c sl S h
  | .putfield _ => match st with
    | v :: st => ma_vc v = ma_a aux 2 ∧ ma_r1 st fun a st => ma_sh S a = some (.inl (ma_a aux 0)) ∧ K (k + 1) ls st c sl S (ma_put h a (ma_a aux 1) v)
    | _ => False
  | .iaload => ma_i1 st fun i st => ma_r1 st fun a st => match aux with
    | [] => ma_in S a .int i ∧ K (k + 1) ls (.int (h.1 a i.toNatClampNeg) :: st) c sl S h
    | _ => match scr with
      | some (n, xs) => a = 1 ∧ vp_in i n ∧ K (k + 1) ls (.int (xs i.toNatClampNeg) :: st) c sl S h
      | none => False
  | .baload => ma_i1 st fun i st => ma_r1 st fun a st => ma_in S a (if ma_a aux 0 = 0 then .byte else .boolean) i ∧ K (k + 1) ls (.int (h.1 a i.toNatClampNeg) :: st) c sl S h
  | .laload => ma_i1 st fun i st => ma_r1 st fun a st => ma_in S a .long i ∧ K (k + 1) ls (.long (h.2.1 a i.toNatClampNeg) :: st) c sl S h
  | .aaload => ma_i1 st fun i st => ma_r1 st fun a st => ma_in S a (.object ma_row) i ∧ K (k + 1) ls (.ref (h.2.2 a i.toNatClampNeg) :: st) c sl S h
  | .iastore => ma_i1 st fun v st => ma_i1 st fun i st => ma_r1 st fun a st => ma_in S a .int i ∧ K (k + 1) ls st c sl S (ma_uI h a i.toNatClampNeg v)
  | .bastore => ma_i1 st fun v st => ma_i1 st fun i st => ma_r1 st fun a st => ma_in S a (if ma_a aux 0 = 0 then .byte else .boolean) i ∧ K (k + 1) ls st c sl S (ma_uI h a i.toNatClampNeg (vp_nar (if ma_a aux 0 = 0 then .byte else .boolean) v))
  | .lastore => ma_l1 st fun v st => ma_i1 st fun i st => ma_r1 st fun a st => ma_in S a .long i ∧ K (k + 1) ls st c sl S (ma_uL h a i.toNatClampNeg v)
  | .aastore => ma_r1 st fun v st => ma_i1 st fun i st => ma_r1 st fun a st => ma_in S a (.object ma_row) i ∧ ma_sh S v = some (.inl ma_rowi) ∧ K (k + 1) ls st c sl S (ma_uR h a i.toNatClampNeg v)
  | .arraylength => ma_r1 st fun a st => match aux with
    | [] => ∃ n, ma_sh S a = some (.inr (.int, n)) ∧ K (k + 1) ls (.int (nI n) :: st) c sl S h
    | _ => match scr with
      | some (n, _) => a = 1 ∧ K (k + 1) ls (.int (nI n) :: st) c sl S h
      | none => False
  | .newarray aty => ma_i1 st fun n st => x = true ∧ ∃ N, n = nI N ∧ N ≤ 100000 ∧ c + 1 ≤ mc ∧ sl + N ≤ ms ∧ K (k + 1) ls (.ref (S.length + 2) :: st) (c + 1) (sl + N) (S ++ [.inr (newarray.typeOf aty, N)]) (ma_z h (S.length + 2))
  | .anewarray _ => ma_i1 st fun n st => x = true ∧ ∃ N, n = nI N ∧ N ≤ 100000 ∧ c + 1 ≤ mc ∧ sl + N ≤ ms ∧ K (k + 1) ls (.ref (S.length + 2) :: st) (c + 1) (sl + N) (S ++ [.inr (.object ma_row, N)]) (ma_z h (S.length + 2))
  | .new _ => x = true ∧ c + 1 ≤ mc ∧ sl + ma_a aux 1 ≤ ms ∧ K (k + 1) ls (.ref (S.length + 2) :: st) (c + 1) (sl + ma_a aux 1) (S ++ [.inl (ma_a aux 0)]) (ma_z h (S.length + 2))
  | .invokevirtual _ => match ma_pop (ma_a aux 1) st [] with
    | some (av, .ref a :: rest) => ma_sh S a = some (.inl (ma_a aux 2)) ∧ ma_call mc ms O (ma_a aux 0) (.ref a :: av) rest c sl S h (K (k + 1) ls)
    | _ => False
  | .invokespecial _ => if ma_a aux 0 = 0 then ma_r1 st fun a st => (∃ ci, ma_sh S a = some (.inl ci)) ∧ ma_cat st ≤ 8 ∧ K (k + 1) ls st c sl S h
    else match ma_pop (ma_a aux 1) st [] with
      | some (av, .ref a :: rest) => (∃ ci, ma_sh S a = some (.inl ci)) ∧ ma_call mc ms O (ma_a aux 0) (.ref a :: av) rest c sl S h (K (k + 1) ls)
      | _ => False
  | .invokestatic _ => if ma_a aux 0 = 0 then (match st with
      | .int n :: .int dp :: .ref a :: .int sp :: .ref a0 :: rest => ma_cat rest ≤ 8 ∧ ∃ N0 N1 d0 d1 m, ma_sh S a0 = some (.inr (.int, N0)) ∧ ma_sh S a = some (.inr (.int, N1)) ∧ sp = nI d0 ∧ dp = nI d1 ∧ n = nI m ∧ d0 + m ≤ N0 ∧ d1 + m ≤ N1 ∧ N0 < 100000 ∧ N1 < 100000 ∧ K (k + 1) ls rest c sl S (ma_cp h a0 d0 a d1 m)
      | _ => False)
    else match ma_pop (ma_a aux 1) st [] with
      | some (av, rest) => ma_call mc ms O (ma_a aux 0) av rest c sl S h (K (k + 1) ls)
      | _ => False
  | .ireturn => match st with
    | [.int v] => (ma_a aux 0 = 1 → v = nI 0 ∨ v = nI 1) ∧ c ≤ mc ∧ sl ≤ ms ∧ (x = true → c = mc) ∧ Q (some (.int v)) S h
    | _ => False
  | .areturn => match st with
    | [.ref v] => c ≤ mc ∧ sl ≤ ms ∧ (x = true → c = mc) ∧ Q (some (.ref v)) S h
    | _ => False
  | .return_ => match st with
    | [] => c ≤ mc ∧ sl ≤ ms ∧ (x = true → c = mc) ∧ Q none S h
    | _ => False
  | _ => False
