/-! the rows: each instruction of the pure machine is one of the JVM -/
theorem ma_ii_inv {st : List Value} {F : Int32 → Int32 → List Value → Prop} (h : ma_ii st F) : ∃ z y st', st = .int y :: .int z :: st' ∧ F z y st' := by
  unfold ma_ii at h
  split at h
  · exact ⟨_, _, _, rfl, h⟩
  · exact h.elim
theorem ma_ll_inv {st : List Value} {F : Int64 → Int64 → List Value → Prop} (h : ma_ll st F) : ∃ z y st', st = .long y :: .long z :: st' ∧ F z y st' := by
  unfold ma_ll at h
  split at h
  · exact ⟨_, _, _, rfl, h⟩
  · exact h.elim
theorem ma_li_inv {st : List Value} {F : Int64 → Int32 → List Value → Prop} (h : ma_li st F) : ∃ z y st', st = .int y :: .long z :: st' ∧ F z y st' := by
  unfold ma_li at h
  split at h
  · exact ⟨_, _, _, rfl, h⟩
  · exact h.elim
theorem ma_i1_inv {st : List Value} {F : Int32 → List Value → Prop} (h : ma_i1 st F) : ∃ z st', st = .int z :: st' ∧ F z st' := by
  unfold ma_i1 at h
  split at h
  · exact ⟨_, _, rfl, h⟩
  · exact h.elim
theorem ma_l1_inv {st : List Value} {F : Int64 → List Value → Prop} (h : ma_l1 st F) : ∃ z st', st = .long z :: st' ∧ F z st' := by
  unfold ma_l1 at h
  split at h
  · exact ⟨_, _, rfl, h⟩
  · exact h.elim
theorem ma_r1_inv {st : List Value} {F : Nat → List Value → Prop} (h : ma_r1 st F) : ∃ z st', st = .ref z :: st' ∧ F z st' := by
  unfold ma_r1 at h
  split at h
  · exact ⟨_, _, rfl, h⟩
  · exact h.elim
theorem ma_gi_inv {ls : List (Option Value)} {i : Nat} {F : Int32 → Prop} (h : ma_gi ls i F) : ∃ z, ls[i]? = some (some (.int z)) ∧ F z := by
  unfold ma_gi at h
  split at h
  · exact ⟨_, by assumption, h⟩
  · exact h.elim
theorem ma_gl_inv {ls : List (Option Value)} {i : Nat} {F : Int64 → Prop} (h : ma_gl ls i F) : ∃ z, ls[i]? = some (some (.long z)) ∧ F z := by
  unfold ma_gl at h
  split at h
  · exact ⟨_, by assumption, h⟩
  · exact h.elim
theorem ma_gr_inv {ls : List (Option Value)} {i : Nat} {F : Nat → Prop} (h : ma_gr ls i F) : ∃ z, ls[i]? = some (some (.ref z)) ∧ F z := by
  unfold ma_gr at h
  split at h
  · exact ⟨_, by assumption, h⟩
  · exact h.elim
theorem ma_tgt_inv {P : List ma_E} {pc : Nat} {off : Int} {t : Nat} (h : ma_tgt P pc off t = true) : ∃ q, ma_pcAt P t = some q ∧ (pc : Int) + off = (q : Int) := by
  unfold ma_tgt at h
  obtain ⟨q, h1, h2⟩ := Option.map_eq_some_iff.mp (of_decide_eq_true h)
  exact ⟨q, h1, h2.symm⟩
section
variable {l : Launch} {g : ma_G} {x : Bool} {scr : Option (Nat × (Nat → Int32))} {mi : ma_M} {P : List ma_E} {Q : ma_P} {K : ma_K}
theorem ma_next {k : Nat} {ls : List (Option Value)} {st : List Value} {c sl : Nat} {S : ma_S} {h : ma_H} {p : Program} {e : Env} {s : State} {m : MethodId} {args : Array Value} {below : List Frame} {meth : Method} {cd : Code} {H : Heap} {locs : List Loc} {la : Array Slot} {pc : Nat}
    (hK : ∀ k ls st c sl S h, K k ls st c sl S h → ma_J l g x scr mi P Q k ls st c sl S h) (hx : K k ls st c sl S h) (hp : ma_pcAt P k = some pc) (hB : ma_B g scr mi p s m args meth cd) (hw : ma_wH g x S h s H locs c) (hL : ma_L g mi.2.2.1 la ls) : ma_W l g x mi Q p e s m args below meth cd H locs c sl pc la (st.map (ma_tv g)) :=
  hK _ _ _ _ _ _ _ hx p e s m args below meth cd H locs la pc hB hw hL hp
/-- what is to be shown of an instruction -/
def ma_Snd (ins : Instr) (aux : List Nat) : Prop := ∀ {l : Launch} {g : ma_G} {x : Bool} {scr : Option (Nat × (Nat → Int32))} {mi : ma_M} {P : List ma_E} {Q : ma_P} {K : ma_K} {k : Nat} {ls : List (Option Value)} {st : List Value} {c sl : Nat} {S : ma_S} {h : ma_H} {p : Program} {e : Env} {s : State} {m : MethodId} {args : Array Value} {below : List Frame} {meth : Method} {cd : Code} {H : Heap} {locs : List Loc} {la : Array Slot} {pc : Nat},
  (∀ k ls st c sl S h, K k ls st c sl S h → ma_J l g x scr mi P Q k ls st c sl S h) → decode mi.2.1 pc = .ok (ins, ma_len ins) → (ma_thru ins = true → ma_pcAt P (k + 1) = some (pc + ma_len ins)) → ma_okx mi P k pc ins aux = true →
  ma_x x scr mi.2.2.2.2.2.1 mi.2.2.2.2.2.2 (ma_or l g x) ins aux k ls st c sl S h K Q → ma_B g scr mi p s m args meth cd → ma_wH g x S h s H locs c → ma_L g mi.2.2.1 la ls → ma_W l g x mi Q p e s m args below meth cd H locs c sl pc la (st.map (ma_tv g))
theorem ma_s_iconst (n : Int) (aux : List Nat) : ma_Snd (.iconst n) aux := by
  intro l g x scr mi P Q K k ls st c sl S h p e s m args below meth cd H locs la pc hK hd hn ho hx hB hw hL
  exact lv_iconst hB.1 hB.2.1 hd (of_decide_eq_true ho) (ma_next hK hx (hn rfl) hB hw hL)
theorem ma_s_bipush (n : Int) (aux : List Nat) : ma_Snd (.bipush n) aux := by
  intro l g x scr mi P Q K k ls st c sl S h p e s m args below meth cd H locs la pc hK hd hn ho hx hB hw hL
  exact lv_bipush hB.1 hB.2.1 hd (of_decide_eq_true ho) (ma_next hK hx (hn rfl) hB hw hL)
theorem ma_s_sipush (n : Int) (aux : List Nat) : ma_Snd (.sipush n) aux := by
  intro l g x scr mi P Q K k ls st c sl S h p e s m args below meth cd H locs la pc hK hd hn ho hx hB hw hL
  exact lv_sipush hB.1 hB.2.1 hd (of_decide_eq_true ho) (ma_next hK hx (hn rfl) hB hw hL)
theorem ma_wB {g : ma_G} {scr : Option (Nat × (Nat → Int32))} {mi : ma_M} {p : Program} {s : State} {m : MethodId} {args : Array Value} {meth : Method} {cd : Code} (hB : ma_B g scr mi p s m args meth cd) {w : Cond} (hw : w ∈ ma_wd) : w.before args s = true := hB.2.2.2.2.2.2.1 w (List.mem_cons_of_mem _ hw)
theorem ma_s_ldc (i : Nat) (aux : List Nat) : ma_Snd (.ldc i) aux := by
  intro l g x scr mi P Q K k ls st c sl S h p e s m args below meth cd H locs la pc hK hd hn ho hx hB hw hL
  exact W.ldc hB.1 hB.2.1 hB.2.2.2.2.2.2.2.1 (ma_wB hB (ma_has_in ho)) rfl hd (ma_next hK hx (hn rfl) hB hw hL)
theorem ma_s_ldcw (i : Nat) (aux : List Nat) : ma_Snd (.ldc_w i) aux := by
  intro l g x scr mi P Q K k ls st c sl S h p e s m args below meth cd H locs la pc hK hd hn ho hx hB hw hL
  exact lv_ldcw hB.1 hB.2.1 hB.2.2.2.2.2.2.2.1 (ma_wB hB (ma_has_in ho)) hd (ma_next hK hx (hn rfl) hB hw hL)
theorem ma_s_ldc2 (i : Nat) (aux : List Nat) : ma_Snd (.ldc2_w i) aux := by
  intro l g x scr mi P Q K k ls st c sl S h p e s m args below meth cd H locs la pc hK hd hn ho hx hB hw hL
  exact W.ldc2 hB.1 hB.2.1 hB.2.2.2.2.2.2.2.1 (ma_wB hB (ma_has_in ho)) rfl hd (ma_next hK hx (hn rfl) hB hw hL)
theorem ma_s_lconst (n : Fin 2) (aux : List Nat) : ma_Snd (.lconst n) aux := by
  intro l g x scr mi P Q K k ls st c sl S h p e s m args below meth cd H locs la pc hK hd hn ho hx hB hw hL
  exact lv_lconst hB.1 hB.2.1 hd (of_decide_eq_true ho) (ma_next hK hx (hn rfl) hB hw hL)
theorem ma_s_iload (i : Nat) (aux : List Nat) : ma_Snd (.iload i) aux := by
  intro l g x scr mi P Q K k ls st c sl S h p e s m args below meth cd H locs la pc hK hd hn ho hx hB hw hL
  obtain ⟨z, h1, hx⟩ := ma_gi_inv hx
  exact lv_iload hB.1 hB.2.1 hd (hL.2.2.2 _ _ h1) (ma_next hK hx (hn rfl) hB hw hL)
theorem ma_s_iload_n (i : Fin 4) (aux : List Nat) : ma_Snd (.iload_n i) aux := by
  intro l g x scr mi P Q K k ls st c sl S h p e s m args below meth cd H locs la pc hK hd hn ho hx hB hw hL
  obtain ⟨z, h1, hx⟩ := ma_gi_inv hx
  exact lv_iload_n hB.1 hB.2.1 hd rfl (hL.2.2.2 _ _ h1) (ma_next hK hx (hn rfl) hB hw hL)
theorem ma_s_lload (i : Nat) (aux : List Nat) : ma_Snd (.lload i) aux := by
  intro l g x scr mi P Q K k ls st c sl S h p e s m args below meth cd H locs la pc hK hd hn ho hx hB hw hL
  obtain ⟨z, h1, hx⟩ := ma_gl_inv hx
  exact lv_lload hB.1 hB.2.1 hd (hL.2.2.2 _ _ h1) (ma_next hK hx (hn rfl) hB hw hL)
theorem ma_s_lload_n (i : Fin 4) (aux : List Nat) : ma_Snd (.lload_n i) aux := by
  intro l g x scr mi P Q K k ls st c sl S h p e s m args below meth cd H locs la pc hK hd hn ho hx hB hw hL
  obtain ⟨z, h1, hx⟩ := ma_gl_inv hx
  exact lv_lload_n hB.1 hB.2.1 hd rfl (hL.2.2.2 _ _ h1) (ma_next hK hx (hn rfl) hB hw hL)
theorem ma_s_aload (i : Nat) (aux : List Nat) : ma_Snd (.aload i) aux := by
  intro l g x scr mi P Q K k ls st c sl S h p e s m args below meth cd H locs la pc hK hd hn ho hx hB hw hL
  obtain ⟨z, h1, hx⟩ := ma_gr_inv hx
  have h2 := hL.2.2.2 _ _ h1
  have h3 := ma_next (below := below) (e := e) hK hx (hn rfl) hB hw hL
  have e0 : ma_tv g (.ref z) = va_rf (ma_ro g z) := rfl
  rw [List.map_cons, e0] at h3
  rw [e0] at h2
  cases hz : ma_ro g z with
  | none =>
    rw [hz] at h2 h3
    exact lv_aloadN hB.1 hB.2.1 hd h2 h3
  | some a =>
    rw [hz] at h2 h3
    exact lv_aload hB.1 hB.2.1 hd h2 h3
theorem ma_s_aload_n (i : Fin 4) (aux : List Nat) : ma_Snd (.aload_n i) aux := by
  intro l g x scr mi P Q K k ls st c sl S h p e s m args below meth cd H locs la pc hK hd hn ho hx hB hw hL
  obtain ⟨z, h1, hx⟩ := ma_gr_inv hx
  have h2 := hL.2.2.2 _ _ h1
  have h3 := ma_next (below := below) (e := e) hK hx (hn rfl) hB hw hL
  have e0 : ma_tv g (.ref z) = va_rf (ma_ro g z) := rfl
  rw [List.map_cons, e0] at h3
  rw [e0] at h2
  cases hz : ma_ro g z with
  | none =>
    rw [hz] at h2 h3
    exact lv_aload_nN hB.1 hB.2.1 hd rfl h2 h3
  | some a =>
    rw [hz] at h2 h3
    exact lv_aload_n hB.1 hB.2.1 hd rfl h2 h3
theorem ma_s_istore (i : Nat) (aux : List Nat) : ma_Snd (.istore i) aux := by
  intro l g x scr mi P Q K k ls st c sl S h p e s m args below meth cd H locs la pc hK hd hn ho hx hB hw hL
  obtain ⟨z, st', rfl, hi, hx⟩ := ma_i1_inv hx
  exact lv_istore hB.1 hB.2.1 hd hL.has (by rw [← hL.2.2.1]; exact hi) rfl (fun la' h' => ma_next hK hx (hn rfl) hB hw (hL.set1 (v := .int z) h'))
theorem ma_s_istore_n (i : Fin 4) (aux : List Nat) : ma_Snd (.istore_n i) aux := by
  intro l g x scr mi P Q K k ls st c sl S h p e s m args below meth cd H locs la pc hK hd hn ho hx hB hw hL
  obtain ⟨z, st', rfl, hi, hx⟩ := ma_i1_inv hx
  exact lv_istore_n hB.1 hB.2.1 hd rfl hL.has (by rw [← hL.2.2.1]; exact hi) rfl (fun la' h' => ma_next hK hx (hn rfl) hB hw (hL.set1 (v := .int z) h'))
theorem ma_s_lstore (i : Nat) (aux : List Nat) : ma_Snd (.lstore i) aux := by
  intro l g x scr mi P Q K k ls st c sl S h p e s m args below meth cd H locs la pc hK hd hn ho hx hB hw hL
  obtain ⟨z, st', rfl, hi, hx⟩ := ma_l1_inv hx
  exact lv_lstore hB.1 hB.2.1 hd hL.has (by rw [← hL.2.2.1]; exact hi) rfl (fun la' h' => ma_next hK hx (hn rfl) hB hw (hL.set2 (v := .long z) h'))
theorem ma_s_lstore_n (i : Fin 4) (aux : List Nat) : ma_Snd (.lstore_n i) aux := by
  intro l g x scr mi P Q K k ls st c sl S h p e s m args below meth cd H locs la pc hK hd hn ho hx hB hw hL
  obtain ⟨z, st', rfl, hi, hx⟩ := ma_l1_inv hx
  exact lv_lstore_n hB.1 hB.2.1 hd rfl hL.has (by rw [← hL.2.2.1]; exact hi) rfl (fun la' h' => ma_next hK hx (hn rfl) hB hw (hL.set2 (v := .long z) h'))
theorem ma_s_astore (i : Nat) (aux : List Nat) : ma_Snd (.astore i) aux := by
  intro l g x scr mi P Q K k ls st c sl S h p e s m args below meth cd H locs la pc hK hd hn ho hx hB hw hL
  obtain ⟨z, st', rfl, hi, hx⟩ := ma_r1_inv hx
  have e0 : ma_tv g (.ref z) = va_rf (ma_ro g z) := rfl
  have hi' : i < mi.2.2.1 := by rw [← hL.2.2.1]; exact hi
  rw [List.map_cons, e0]
  have h3 : ∀ la' : Array Slot, lv_has la' mi.2.2.1 ((i, va_rf (ma_ro g z)) :: (ma_kn g 0 ls).filter (fun q => !(q.1 == i) && !(q.1 + 1 == i && q.2.category == 2))) → _ := fun la' h' => ma_next (below := below) (e := e) hK hx (hn rfl) hB hw (hL.set1 (v := .ref z) h')
  cases hz : ma_ro g z with
  | none =>
    rw [hz] at h3
    exact lv_astoreN hB.1 hB.2.1 hd hL.has hi' rfl h3
  | some a =>
    rw [hz] at h3
    exact lv_astore hB.1 hB.2.1 hd hL.has hi' rfl h3
theorem ma_s_astore_n (i : Fin 4) (aux : List Nat) : ma_Snd (.astore_n i) aux := by
  intro l g x scr mi P Q K k ls st c sl S h p e s m args below meth cd H locs la pc hK hd hn ho hx hB hw hL
  obtain ⟨z, st', rfl, hi, hx⟩ := ma_r1_inv hx
  have e0 : ma_tv g (.ref z) = va_rf (ma_ro g z) := rfl
  have hi' : (i : Nat) < mi.2.2.1 := by rw [← hL.2.2.1]; exact hi
  rw [List.map_cons, e0]
  have h3 : ∀ la' : Array Slot, lv_has la' mi.2.2.1 (((i : Nat), va_rf (ma_ro g z)) :: (ma_kn g 0 ls).filter (fun q => !(q.1 == (i : Nat)) && !(q.1 + 1 == (i : Nat) && q.2.category == 2))) → _ := fun la' h' => ma_next (below := below) (e := e) hK hx (hn rfl) hB hw (hL.set1 (v := .ref z) h')
  cases hz : ma_ro g z with
  | none =>
    rw [hz] at h3
    exact lv_astore_nN hB.1 hB.2.1 hd rfl hL.has hi' rfl h3
  | some a =>
    rw [hz] at h3
    exact lv_astore_n hB.1 hB.2.1 hd rfl hL.has hi' rfl h3
theorem ma_s_iinc (i : Nat) (n : Int) (aux : List Nat) : ma_Snd (.iinc i n) aux := by
  intro l g x scr mi P Q K k ls st c sl S h p e s m args below meth cd H locs la pc hK hd hn ho hx hB hw hL
  obtain ⟨z, h1, hx⟩ := ma_gi_inv hx
  have hm : (i, Value.int z) ∈ ma_kn g 0 ls := (ma_kn_mem g ls 0 _).mpr ⟨i, .int z, h1, by simp [ma_tv]⟩
  obtain ⟨j, hj⟩ := List.getElem?_of_mem hm
  have hi : i < mi.2.2.1 := by rw [← hL.2.2.1]; exact (List.getElem?_eq_some_iff.mp h1).1
  exact lv_iinc hB.1 hB.2.1 hd hL.has hj (by rw [of_decide_eq_true ho]) hi rfl (fun la' h' => ma_next hK hx (hn rfl) hB hw (hL.set1 (v := .int (z + ma_k aux)) h'))
theorem ma_s_iadd (aux : List Nat) : ma_Snd .iadd aux := by
  intro l g x scr mi P Q K k ls st c sl S h p e s m args below meth cd H locs la pc hK hd hn ho hx hB hw hL
  obtain ⟨z, y, st', rfl, hx⟩ := ma_ii_inv hx
  exact lv_iadd hB.1 hB.2.1 hd (ma_next hK hx (hn rfl) hB hw hL)
theorem ma_s_isub (aux : List Nat) : ma_Snd .isub aux := by
  intro l g x scr mi P Q K k ls st c sl S h p e s m args below meth cd H locs la pc hK hd hn ho hx hB hw hL
  obtain ⟨z, y, st', rfl, hx⟩ := ma_ii_inv hx
  exact lv_isub hB.1 hB.2.1 hd (ma_next hK hx (hn rfl) hB hw hL)
theorem ma_s_imul (aux : List Nat) : ma_Snd .imul aux := by
  intro l g x scr mi P Q K k ls st c sl S h p e s m args below meth cd H locs la pc hK hd hn ho hx hB hw hL
  obtain ⟨z, y, st', rfl, hx⟩ := ma_ii_inv hx
  exact lv_imul hB.1 hB.2.1 hd (ma_next hK hx (hn rfl) hB hw hL)
theorem ma_s_iand (aux : List Nat) : ma_Snd .iand aux := by
  intro l g x scr mi P Q K k ls st c sl S h p e s m args below meth cd H locs la pc hK hd hn ho hx hB hw hL
  obtain ⟨z, y, st', rfl, hx⟩ := ma_ii_inv hx
  exact lv_iand hB.1 hB.2.1 hd (ma_next hK hx (hn rfl) hB hw hL)
theorem ma_s_ior (aux : List Nat) : ma_Snd .ior aux := by
  intro l g x scr mi P Q K k ls st c sl S h p e s m args below meth cd H locs la pc hK hd hn ho hx hB hw hL
  obtain ⟨z, y, st', rfl, hx⟩ := ma_ii_inv hx
  exact lv_ior hB.1 hB.2.1 hd (ma_next hK hx (hn rfl) hB hw hL)
theorem ma_s_ixor (aux : List Nat) : ma_Snd .ixor aux := by
  intro l g x scr mi P Q K k ls st c sl S h p e s m args below meth cd H locs la pc hK hd hn ho hx hB hw hL
  obtain ⟨z, y, st', rfl, hx⟩ := ma_ii_inv hx
  exact lv_ixor hB.1 hB.2.1 hd (ma_next hK hx (hn rfl) hB hw hL)
theorem ma_s_idiv (aux : List Nat) : ma_Snd .idiv aux := by
  intro l g x scr mi P Q K k ls st c sl S h p e s m args below meth cd H locs la pc hK hd hn ho hx hB hw hL
  obtain ⟨z, y, st', rfl, hne, hx⟩ := ma_ii_inv hx
  exact lv_idiv hB.1 hB.2.1 hd hne (ma_next hK hx (hn rfl) hB hw hL)
theorem ma_s_irem (aux : List Nat) : ma_Snd .irem aux := by
  intro l g x scr mi P Q K k ls st c sl S h p e s m args below meth cd H locs la pc hK hd hn ho hx hB hw hL
  obtain ⟨z, y, st', rfl, hne, hx⟩ := ma_ii_inv hx
  exact lv_irem hB.1 hB.2.1 hd hne (ma_next hK hx (hn rfl) hB hw hL)
theorem ma_s_ishl (aux : List Nat) : ma_Snd .ishl aux := by
  intro l g x scr mi P Q K k ls st c sl S h p e s m args below meth cd H locs la pc hK hd hn ho hx hB hw hL
  obtain ⟨z, y, st', rfl, hx⟩ := ma_ii_inv hx
  exact lv_ishl hB.1 hB.2.1 hd (ma_next hK hx (hn rfl) hB hw hL)
theorem ma_s_ishr (aux : List Nat) : ma_Snd .ishr aux := by
  intro l g x scr mi P Q K k ls st c sl S h p e s m args below meth cd H locs la pc hK hd hn ho hx hB hw hL
  obtain ⟨z, y, st', rfl, hx⟩ := ma_ii_inv hx
  exact lv_ishr hB.1 hB.2.1 hd (ma_next hK hx (hn rfl) hB hw hL)
theorem ma_s_iushr (aux : List Nat) : ma_Snd .iushr aux := by
  intro l g x scr mi P Q K k ls st c sl S h p e s m args below meth cd H locs la pc hK hd hn ho hx hB hw hL
  obtain ⟨z, y, st', rfl, hx⟩ := ma_ii_inv hx
  exact lv_iushr hB.1 hB.2.1 hd rfl (ma_next hK hx (hn rfl) hB hw hL)
theorem ma_s_ladd (aux : List Nat) : ma_Snd .ladd aux := by
  intro l g x scr mi P Q K k ls st c sl S h p e s m args below meth cd H locs la pc hK hd hn ho hx hB hw hL
  obtain ⟨z, y, st', rfl, hx⟩ := ma_ll_inv hx
  exact lv_ladd hB.1 hB.2.1 hd (ma_next hK hx (hn rfl) hB hw hL)
theorem ma_s_lmul (aux : List Nat) : ma_Snd .lmul aux := by
  intro l g x scr mi P Q K k ls st c sl S h p e s m args below meth cd H locs la pc hK hd hn ho hx hB hw hL
  obtain ⟨z, y, st', rfl, hx⟩ := ma_ll_inv hx
  exact lv_lmul hB.1 hB.2.1 hd (ma_next hK hx (hn rfl) hB hw hL)
theorem ma_s_land (aux : List Nat) : ma_Snd .land aux := by
  intro l g x scr mi P Q K k ls st c sl S h p e s m args below meth cd H locs la pc hK hd hn ho hx hB hw hL
  obtain ⟨z, y, st', rfl, hx⟩ := ma_ll_inv hx
  exact lv_land hB.1 hB.2.1 hd (ma_next hK hx (hn rfl) hB hw hL)
theorem ma_s_lor (aux : List Nat) : ma_Snd .lor aux := by
  intro l g x scr mi P Q K k ls st c sl S h p e s m args below meth cd H locs la pc hK hd hn ho hx hB hw hL
  obtain ⟨z, y, st', rfl, hx⟩ := ma_ll_inv hx
  exact lv_lor hB.1 hB.2.1 hd (ma_next hK hx (hn rfl) hB hw hL)
theorem ma_s_ldiv (aux : List Nat) : ma_Snd .ldiv aux := by
  intro l g x scr mi P Q K k ls st c sl S h p e s m args below meth cd H locs la pc hK hd hn ho hx hB hw hL
  obtain ⟨z, y, st', rfl, hne, hx⟩ := ma_ll_inv hx
  exact lv_ldiv hB.1 hB.2.1 hd hne (ma_next hK hx (hn rfl) hB hw hL)
theorem ma_s_lrem (aux : List Nat) : ma_Snd .lrem aux := by
  intro l g x scr mi P Q K k ls st c sl S h p e s m args below meth cd H locs la pc hK hd hn ho hx hB hw hL
  obtain ⟨z, y, st', rfl, hne, hx⟩ := ma_ll_inv hx
  exact lv_lrem hB.1 hB.2.1 hd hne (ma_next hK hx (hn rfl) hB hw hL)
theorem ma_s_lcmp (aux : List Nat) : ma_Snd .lcmp aux := by
  intro l g x scr mi P Q K k ls st c sl S h p e s m args below meth cd H locs la pc hK hd hn ho hx hB hw hL
  obtain ⟨z, y, st', rfl, hx⟩ := ma_ll_inv hx
  exact W.lcmp hB.1 hB.2.1 hd (ma_next hK hx (hn rfl) hB hw hL)
theorem ma_s_lshl (aux : List Nat) : ma_Snd .lshl aux := by
  intro l g x scr mi P Q K k ls st c sl S h p e s m args below meth cd H locs la pc hK hd hn ho hx hB hw hL
  obtain ⟨z, y, st', rfl, hx⟩ := ma_li_inv hx
  exact lv_lshl hB.1 hB.2.1 hd rfl (ma_next hK hx (hn rfl) hB hw hL)
theorem ma_s_lushr (aux : List Nat) : ma_Snd .lushr aux := by
  intro l g x scr mi P Q K k ls st c sl S h p e s m args below meth cd H locs la pc hK hd hn ho hx hB hw hL
  obtain ⟨z, y, st', rfl, hx⟩ := ma_li_inv hx
  exact lv_lushr hB.1 hB.2.1 hd rfl (ma_next hK hx (hn rfl) hB hw hL)
theorem ma_s_i2l (aux : List Nat) : ma_Snd .i2l aux := by
  intro l g x scr mi P Q K k ls st c sl S h p e s m args below meth cd H locs la pc hK hd hn ho hx hB hw hL
  obtain ⟨z, st', rfl, hx⟩ := ma_i1_inv hx
  exact lv_i2l hB.1 hB.2.1 hd rfl (ma_next hK hx (hn rfl) hB hw hL)
theorem ma_s_l2i (aux : List Nat) : ma_Snd .l2i aux := by
  intro l g x scr mi P Q K k ls st c sl S h p e s m args below meth cd H locs la pc hK hd hn ho hx hB hw hL
  obtain ⟨z, st', rfl, hx⟩ := ma_l1_inv hx
  exact lv_l2i hB.1 hB.2.1 hd rfl (ma_next hK hx (hn rfl) hB hw hL)
theorem ma_s_i2b (aux : List Nat) : ma_Snd .i2b aux := by
  intro l g x scr mi P Q K k ls st c sl S h p e s m args below meth cd H locs la pc hK hd hn ho hx hB hw hL
  obtain ⟨z, st', rfl, hx⟩ := ma_i1_inv hx
  exact lv_i2b hB.1 hB.2.1 hd rfl (ma_next hK hx (hn rfl) hB hw hL)
theorem ma_s_goto (off : Int) (aux : List Nat) : ma_Snd (.goto off) aux := by
  intro l g x scr mi P Q K k ls st c sl S h p e s m args below meth cd H locs la pc hK hd hn ho hx hB hw hL
  obtain ⟨q, h1, h2⟩ := ma_tgt_inv ho
  exact lv_goto hB.1 hB.2.1 hd h2 (ma_next hK hx h1 hB hw hL)
theorem ma_s_icmp (cnd : ClassFile.Cond) (off : Int) (aux : List Nat) : ma_Snd (.if_icmp cnd off) aux := by
  intro l g x scr mi P Q K k ls st c sl S h p e s m args below meth cd H locs la pc hK hd hn ho hx hB hw hL
  obtain ⟨q, h1, h2⟩ := ma_tgt_inv ho
  obtain ⟨z, y, st', rfl, hx⟩ := ma_ii_inv hx
  cases cnd
  · exact lv_icmp_eq hB.1 hB.2.1 hd h2 (fun q => ma_next hK (hx.1 q) h1 hB hw hL) (fun q => ma_next hK (hx.2 q) (hn rfl) hB hw hL)
  · exact lv_icmp_ne hB.1 hB.2.1 hd h2 (fun q => ma_next hK (hx.1 q) h1 hB hw hL) (fun q => ma_next hK (hx.2 q) (hn rfl) hB hw hL)
  · exact lv_icmp_lt hB.1 hB.2.1 hd h2 (fun q => ma_next hK (hx.1 q) h1 hB hw hL) (fun q => ma_next hK (hx.2 q) (hn rfl) hB hw hL)
  · exact lv_icmp_ge hB.1 hB.2.1 hd h2 (fun q => ma_next hK (hx.1 q) h1 hB hw hL) (fun q => ma_next hK (hx.2 q) (hn rfl) hB hw hL)
  · exact lv_icmp_gt hB.1 hB.2.1 hd h2 (fun q => ma_next hK (hx.1 q) h1 hB hw hL) (fun q => ma_next hK (hx.2 q) (hn rfl) hB hw hL)
  · exact lv_icmp_le hB.1 hB.2.1 hd h2 (fun q => ma_next hK (hx.1 q) h1 hB hw hL) (fun q => ma_next hK (hx.2 q) (hn rfl) hB hw hL)
theorem ma_s_if (cnd : ClassFile.Cond) (off : Int) (aux : List Nat) : ma_Snd (.ifCond cnd off) aux := by
  intro l g x scr mi P Q K k ls st c sl S h p e s m args below meth cd H locs la pc hK hd hn ho hx hB hw hL
  obtain ⟨q, h1, h2⟩ := ma_tgt_inv ho
  obtain ⟨z, st', rfl, hx⟩ := ma_i1_inv hx
  cases cnd
  · exact lv_if_eq hB.1 hB.2.1 hd h2 (fun q => ma_next hK (hx.1 q) h1 hB hw hL) (fun q => ma_next hK (hx.2 q) (hn rfl) hB hw hL)
  · exact lv_if_ne hB.1 hB.2.1 hd h2 (fun q => ma_next hK (hx.1 q) h1 hB hw hL) (fun q => ma_next hK (hx.2 q) (hn rfl) hB hw hL)
  · exact lv_if_lt hB.1 hB.2.1 hd h2 (fun q => ma_next hK (hx.1 q) h1 hB hw hL) (fun q => ma_next hK (hx.2 q) (hn rfl) hB hw hL)
  · exact lv_if_ge hB.1 hB.2.1 hd h2 (fun q => ma_next hK (hx.1 q) h1 hB hw hL) (fun q => ma_next hK (hx.2 q) (hn rfl) hB hw hL)
  · exact lv_if_gt hB.1 hB.2.1 hd h2 (fun q => ma_next hK (hx.1 q) h1 hB hw hL) (fun q => ma_next hK (hx.2 q) (hn rfl) hB hw hL)
  · exact lv_if_le hB.1 hB.2.1 hd h2 (fun q => ma_next hK (hx.1 q) h1 hB hw hL) (fun q => ma_next hK (hx.2 q) (hn rfl) hB hw hL)
theorem ma_s_dup (aux : List Nat) : ma_Snd .dup aux := by
  intro l g x scr mi P Q K k ls st c sl S h p e s m args below meth cd H locs la pc hK hd hn ho hx hB hw hL
  match st, hx with
  | v :: st', hx => exact lv_dup hB.1 hB.2.1 hd (by rw [ma_tv_cat]; exact hx.1) (ma_next hK hx.2 (hn rfl) hB hw hL)
theorem ma_s_dup2 (aux : List Nat) : ma_Snd .dup2 aux := by
  intro l g x scr mi P Q K k ls st c sl S h p e s m args below meth cd H locs la pc hK hd hn ho hx hB hw hL
  match st, hx with
  | v :: w :: st', hx => exact lv_dup2_11 hB.1 hB.2.1 hd (by rw [ma_tv_cat]; exact hx.1) (by rw [ma_tv_cat]; exact hx.2.1) (ma_next hK hx.2.2 (hn rfl) hB hw hL)
theorem ma_s_pop (aux : List Nat) : ma_Snd .pop aux := by
  intro l g x scr mi P Q K k ls st c sl S h p e s m args below meth cd H locs la pc hK hd hn ho hx hB hw hL
  match st, hx with
  | v :: st', hx => exact lv_pop hB.1 hB.2.1 hd (by rw [ma_tv_cat]; exact hx.1) (ma_next hK hx.2 (hn rfl) hB hw hL)
end
