theorem ma_sound {l : Launch} {g : ma_G} {x : Bool} {scr : Option (Nat × (Nat → Int32))} {mi : ma_M} {P : List ma_E} {Q : ma_P} {K : ma_K} {k : Nat} {ls : List (Option Value)} {st : List Value} {c sl : Nat} {S : ma_S} {h : ma_H} (hok : ma_ok mi P)
    (hK : ∀ k ls st c sl S h, K k ls st c sl S h → ma_J l g x scr mi P Q k ls st c sl S h) (hx : ma_go x scr mi.2.2.2.2.2.1 mi.2.2.2.2.2.2 (ma_or l g x) P Q K k ls st c sl S h) : ma_J l g x scr mi P Q k ls st c sl S h := by
  intro p e s m args below meth cd H locs la pc hB hw hL hpc
  unfold ma_go at hx
  split at hx
  · rename_i en hen
    have h1 := hok k en hen
    obtain ⟨pc', len, ins, aux⟩ := en
    have hpc' : pc' = pc := by
      rw [ma_pcAt, hen] at hpc
      exact Option.some.inj hpc
    subst hpc'
    unfold ma_ok1 at h1
    simp only [Bool.and_eq_true] at h1
    obtain ⟨⟨⟨hd, hlen⟩, hnx⟩, ho⟩ := h1
    have hd := of_decide_eq_true hd
    dsimp only at hd hlen hnx ho hx
    have key : ma_Snd ins aux → len = ma_len ins → ma_W l g x mi Q p e s m args below meth cd H locs c sl pc' la (st.map (ma_tv g)) := by
      intro hS hl
      subst hl
      exact hS hK hd (fun ht => by rw [if_pos ht] at hnx; exact of_decide_eq_true hnx) ho hx hB hw hL
    cases ins
    case iconst => exact key (ma_s_iconst _ aux) (of_decide_eq_true hlen)
    case bipush => exact key (ma_s_bipush _ aux) (of_decide_eq_true hlen)
    case sipush => exact key (ma_s_sipush _ aux) (of_decide_eq_true hlen)
    case ldc => exact key (ma_s_ldc _ aux) (of_decide_eq_true hlen)
    case ldc_w => exact key (ma_s_ldcw _ aux) (of_decide_eq_true hlen)
    case ldc2_w => exact key (ma_s_ldc2 _ aux) (of_decide_eq_true hlen)
    case lconst => exact key (ma_s_lconst _ aux) (of_decide_eq_true hlen)
    case iload => exact key (ma_s_iload _ aux) (of_decide_eq_true hlen)
    case iload_n => exact key (ma_s_iload_n _ aux) (of_decide_eq_true hlen)
    case lload => exact key (ma_s_lload _ aux) (of_decide_eq_true hlen)
    case lload_n => exact key (ma_s_lload_n _ aux) (of_decide_eq_true hlen)
    case aload => exact key (ma_s_aload _ aux) (of_decide_eq_true hlen)
    case aload_n => exact key (ma_s_aload_n _ aux) (of_decide_eq_true hlen)
    case istore => exact key (ma_s_istore _ aux) (of_decide_eq_true hlen)
    case istore_n => exact key (ma_s_istore_n _ aux) (of_decide_eq_true hlen)
    case lstore => exact key (ma_s_lstore _ aux) (of_decide_eq_true hlen)
    case lstore_n => exact key (ma_s_lstore_n _ aux) (of_decide_eq_true hlen)
    case astore => exact key (ma_s_astore _ aux) (of_decide_eq_true hlen)
    case astore_n => exact key (ma_s_astore_n _ aux) (of_decide_eq_true hlen)
    case iinc => exact key (ma_s_iinc _ _ aux) (of_decide_eq_true hlen)
    case goto => exact key (ma_s_goto _ aux) (of_decide_eq_true hlen)
    case if_icmp => exact key (ma_s_icmp _ _ aux) (of_decide_eq_true hlen)
    case ifCond => exact key (ma_s_if _ _ aux) (of_decide_eq_true hlen)
    case getfield => exact key (ma_s_getfield _ aux) (of_decide_eq_true hlen)
    case putfield => exact key (ma_s_putfield _ aux) (of_decide_eq_true hlen)
    case new => exact key (ma_s_new _ aux) (of_decide_eq_true hlen)
    case newarray => exact key (ma_s_newarray _ aux) (of_decide_eq_true hlen)
    case anewarray => exact key (ma_s_anewarray _ aux) (of_decide_eq_true hlen)
    case invokevirtual => exact key (ma_s_invokevirtual _ aux) (of_decide_eq_true hlen)
    case iadd => exact key (ma_s_iadd aux) (of_decide_eq_true hlen)
    case isub => exact key (ma_s_isub aux) (of_decide_eq_true hlen)
    case imul => exact key (ma_s_imul aux) (of_decide_eq_true hlen)
    case iand => exact key (ma_s_iand aux) (of_decide_eq_true hlen)
    case ior => exact key (ma_s_ior aux) (of_decide_eq_true hlen)
    case ixor => exact key (ma_s_ixor aux) (of_decide_eq_true hlen)
    case idiv => exact key (ma_s_idiv aux) (of_decide_eq_true hlen)
    case irem => exact key (ma_s_irem aux) (of_decide_eq_true hlen)
    case ishl => exact key (ma_s_ishl aux) (of_decide_eq_true hlen)
    case ishr => exact key (ma_s_ishr aux) (of_decide_eq_true hlen)
    case iushr => exact key (ma_s_iushr aux) (of_decide_eq_true hlen)
    case ladd => exact key (ma_s_ladd aux) (of_decide_eq_true hlen)
    case lmul => exact key (ma_s_lmul aux) (of_decide_eq_true hlen)
    case land => exact key (ma_s_land aux) (of_decide_eq_true hlen)
    case lor => exact key (ma_s_lor aux) (of_decide_eq_true hlen)
    case ldiv => exact key (ma_s_ldiv aux) (of_decide_eq_true hlen)
    case lrem => exact key (ma_s_lrem aux) (of_decide_eq_true hlen)
    case lcmp => exact key (ma_s_lcmp aux) (of_decide_eq_true hlen)
    case lshl => exact key (ma_s_lshl aux) (of_decide_eq_true hlen)
    case lushr => exact key (ma_s_lushr aux) (of_decide_eq_true hlen)
    case i2l => exact key (ma_s_i2l aux) (of_decide_eq_true hlen)
    case l2i => exact key (ma_s_l2i aux) (of_decide_eq_true hlen)
    case i2b => exact key (ma_s_i2b aux) (of_decide_eq_true hlen)
    case dup => exact key (ma_s_dup aux) (of_decide_eq_true hlen)
    case dup2 => exact key (ma_s_dup2 aux) (of_decide_eq_true hlen)
    case pop => exact key (ma_s_pop aux) (of_decide_eq_true hlen)
    case iaload => exact key (ma_s_iaload aux) (of_decide_eq_true hlen)
    case baload => exact key (ma_s_baload aux) (of_decide_eq_true hlen)
    case laload => exact key (ma_s_laload aux) (of_decide_eq_true hlen)
    case aaload => exact key (ma_s_aaload aux) (of_decide_eq_true hlen)
    case iastore => exact key (ma_s_iastore aux) (of_decide_eq_true hlen)
    case bastore => exact key (ma_s_bastore aux) (of_decide_eq_true hlen)
    case lastore => exact key (ma_s_lastore aux) (of_decide_eq_true hlen)
    case aastore => exact key (ma_s_aastore aux) (of_decide_eq_true hlen)
    case arraylength => exact key (ma_s_arraylength aux) (of_decide_eq_true hlen)
    case ireturn => exact key (ma_s_ireturn aux) (of_decide_eq_true hlen)
    case areturn => exact key (ma_s_areturn aux) (of_decide_eq_true hlen)
    case return_ => exact key (ma_s_return aux) (of_decide_eq_true hlen)
    case invokespecial =>
      by_cases ha : ma_a aux 0 = 0
      · exact key (ma_s_objinit _ aux ha) (of_decide_eq_true hlen)
      · exact key (ma_s_invokespecial _ aux ha) (of_decide_eq_true hlen)
    case invokestatic =>
      by_cases ha : ma_a aux 0 = 0
      · exact key (ma_s_arraycopy _ aux ha) (of_decide_eq_true hlen)
      · exact key (ma_s_invokestatic _ aux ha) (of_decide_eq_true hlen)
    case tableswitch => exact ma_s_tableswitch hK hd ho hx hB hw hL
    all_goals exact hx.elim
  · exact hx.elim
theorem ma_wp_J {l : Launch} {g : ma_G} {x : Bool} {scr : Option (Nat × (Nat → Int32))} {mi : ma_M} {P : List ma_E} {Q : ma_P} (hok : ma_ok mi P) (cuts : List Nat) : ∀ (n k : Nat) (ls : List (Option Value)) (st : List Value) (c sl : Nat) (S : ma_S) (h : ma_H), ma_wp x scr mi.2.2.2.2.2.1 mi.2.2.2.2.2.2 (ma_or l g x) P Q cuts (ma_J l g x scr mi P Q) n k ls st c sl S h → ma_J l g x scr mi P Q k ls st c sl S h
  | 0, _, _, _, _, _, _, _, hx => hx.elim
  | n + 1, k, ls, st, c, sl, S, h, hx => by
    rw [ma_wp] at hx
    split at hx
    · exact hx
    · exact ma_sound hok (ma_wp_J hok cuts n) hx
/-- from k on up to the cuts -/
theorem ma_run {l : Launch} {g : ma_G} {x : Bool} {scr : Option (Nat × (Nat → Int32))} {mi : ma_M} {P : List ma_E} {Q : ma_P} (hok : ma_ok mi P) (cuts : List Nat) (n : Nat) {k : Nat} {ls : List (Option Value)} {st : List Value} {c sl : Nat} {S : ma_S} {h : ma_H} (hx : ma_go x scr mi.2.2.2.2.2.1 mi.2.2.2.2.2.2 (ma_or l g x) P Q (ma_wp x scr mi.2.2.2.2.2.1 mi.2.2.2.2.2.2 (ma_or l g x) P Q cuts (ma_J l g x scr mi P Q) n) k ls st c sl S h) : ma_J l g x scr mi P Q k ls st c sl S h :=
  ma_sound hok (ma_wp_J hok cuts n) hx
/-- the locals at the entry -/
def ma_en : List Value → List (Option Value)
  | [] => []
  | v :: vs => if v.category = 2 then some v :: none :: ma_en vs else some v :: ma_en vs
theorem ma_en_at (g : ma_G) : ∀ (vs : List Value) (i0 i : Nat) (v : Value), (ma_en vs)[i]? = some (some v) → (i0 + i, ma_tv g v) ∈ lv_args i0 (vs.map (ma_tv g))
  | [], _, _, _, h => by simp [ma_en] at h
  | w :: vs, i0, i, v, h => by
    rw [List.map_cons, lv_args, ma_tv_cat]
    rw [ma_en] at h
    split at h
    · rename_i hc
      rw [if_pos hc]
      match i, h with
      | 0, h => simp at h; subst h; exact List.mem_cons_self
      | 1, h => simp at h
      | i + 2, h =>
        refine List.mem_cons_of_mem _ ?_
        have := ma_en_at g vs (i0 + 2) i v (by simpa using h)
        rwa [show i0 + 2 + i = i0 + (i + 2) by omega] at this
    · rename_i hc
      rw [if_neg hc]
      match i, h with
      | 0, h => simp at h; subst h; exact List.mem_cons_self
      | i + 1, h =>
        refine List.mem_cons_of_mem _ ?_
        have := ma_en_at g vs (i0 + 1) i v (by simpa using h)
        rwa [show i0 + 1 + i = i0 + (i + 1) by omega] at this
theorem ma_en_len (g : ma_G) : ∀ vs : List Value, (lg_sl (vs.map (ma_tv g))).length = (ma_en vs).length
  | [] => rfl
  | v :: vs => by
    have ih := ma_en_len g vs
    rw [ma_en, List.map_cons]
    unfold lg_sl at ih ⊢
    rw [List.flatMap_cons, List.length_append, ih, ma_tv_cat]
    split <;> simp <;> omega
/-- a method's contract out of its walk -/
theorem ma_PM_of {l : Launch} {g : ma_G} {x : Bool} {mi : ma_M} {P : List ma_E} {av : List Value} {S : ma_S} {h : ma_H} {Q : ma_P} (hpl : plainName mi.1.cls = true) (hp0 : ma_pcAt P 0 = some 0) (hlen : (ma_en av).length ≤ mi.2.2.1)
    (hJ : ma_J l g x none mi P Q 0 (ma_en av ++ List.replicate (mi.2.2.1 - (ma_en av).length) none) [] 0 0 S h) : ma_PM l g x mi av S h Q := by
  refine Met.ofW (cc := mi.2.1) (maxL := mi.2.2.1) (ret := mi.2.2.2.1) hpl rfl ?_
  intro p e s m args below meth c s₁ B hml hv
  obtain ⟨rfl, hat, hb, hKK⟩ := hv
  rw [lg_entry_eq]
  have hl := lv_entry (av.map (ma_tv g)) (n := mi.2.2.1) (by rw [ma_en_len]; exact hlen)
  have hL : ma_L g mi.2.2.1 ((lg_sl (av.map (ma_tv g)) ++ List.replicate (mi.2.2.1 - (lg_sl (av.map (ma_tv g))).length) Slot.unset).toArray) (ma_en av ++ List.replicate (mi.2.2.1 - (ma_en av).length) none) := by
    refine ⟨hl.1, hl.2.1, by simp; omega, fun i v hi => ?_⟩
    have hi2 : (ma_en av)[i]? = some (some v) := by
      by_cases hlt : i < (ma_en av).length
      · rw [List.getElem?_append_left hlt] at hi
        exact hi
      · rw [List.getElem?_append_right (by omega), List.getElem?_replicate] at hi
        split at hi <;> simp at hi
    have := ma_en_at g av 0 i v hi2
    rw [Nat.zero_add] at this
    exact hl.2.2 _ this
  refine hJ p e s m _ below meth c s.heap [] _ 0 ⟨B.exec, B.bytes, hml, B.returns, B.notSynchronized, (name_of_methodNamed B.named B.method).1, atoms_spec (ws := ma_wo mi) B.pre, findClass_of_methodNamed B.named, hKK, hb, fun L xs q => by cases q⟩ ⟨hat.1, va_S.rf, fun q => ⟨hat.2 q, rfl⟩⟩ hL hp0
