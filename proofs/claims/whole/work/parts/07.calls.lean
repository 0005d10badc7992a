/-! returns, calls, and the whole -/
theorem ma_s_return (aux : List Nat) : ma_Snd .return_ aux := by
  intro l g x scr mi P Q K k ls st c sl S h p e s m args below meth cd H locs la pc hK hd hn ho hx hB hw hL
  match st, hx with
  | [], hx =>
    obtain ⟨h1, h2, h3, hq⟩ := hx
    have hlocks := hB.2.2.2.2.1
    refine W.widen h1 h2 ?_
    exact W.vret hB.1 hB.2.1 (hB.2.2.2.1.trans (of_decide_eq_true ho)) (fun t ht hW => ⟨⟨none, S, h, rfl, hq, by rw [ht]; exact ⟨hw.1, fun q => (hw.2.2 q).1⟩⟩, hw.2.1.F ht, fun q => by rw [ht, (hw.2.2 q).2, h3 q]⟩) hw.2.1.2.2 hd
theorem ma_s_ireturn (aux : List Nat) : ma_Snd .ireturn aux := by
  intro l g x scr mi P Q K k ls st c sl S h p e s m args below meth cd H locs la pc hK hd hn ho hx hB hw hL
  match st, hx with
  | [.int v], hx =>
    obtain ⟨h0, h1, h2, h3, hq⟩ := hx
    have hlocks := hB.2.2.2.2.1
    have hQ : ∀ t : State, t.heap = H → s.WarmedH t.vm → ma_Qc g x mi.2.2.2.2.2.1 Q args s (.returned (some (.int v))) t := fun t ht hW => ⟨⟨some (.int v), S, h, rfl, hq, by rw [ht]; exact ⟨hw.1, fun q => (hw.2.2 q).1⟩⟩, hw.2.1.F ht, fun q => by rw [ht, (hw.2.2 q).2, h3 q]⟩
    refine W.widen h1 h2 ?_
    simp only [ma_okx] at ho
    by_cases ha : ma_a aux 0 = 1
    · rw [if_pos ha] at ho
      refine W.zret hB.1 hB.2.1 (hB.2.2.2.1.trans (of_decide_eq_true ho)) ?_ hQ hw.2.1.2.2 hd
      rcases h0 ha with rfl | rfl <;> rfl
    · rw [if_neg ha] at ho
      exact W.iret hB.1 hB.2.1 (hB.2.2.2.1.trans (of_decide_eq_true ho)) hQ hw.2.1.2.2 hd
theorem ma_s_areturn (aux : List Nat) : ma_Snd .areturn aux := by
  intro l g x scr mi P Q K k ls st c sl S h p e s m args below meth cd H locs la pc hK hd hn ho hx hB hw hL
  match st, hx with
  | [.ref v], hx =>
    obtain ⟨h1, h2, h3, hq⟩ := hx
    have hlocks := hB.2.2.2.2.1
    refine W.widen h1 h2 ?_
    simp only [ma_okx] at ho
    obtain ⟨rt, hr, hrt⟩ : ∃ rt, mi.2.2.2.1 = some rt ∧ ((∃ n, rt = .object n) ∨ ∃ t, rt = .array t) := by
      split at ho
      · rename_i n hn
        exact ⟨_, hn, Or.inl ⟨n, rfl⟩⟩
      · rename_i n hn
        exact ⟨_, hn, Or.inr ⟨n, rfl⟩⟩
      · cases ho
    refine W.aret (v := ma_tv g (.ref v)) hB.1 hB.2.1 (hB.2.2.2.1.trans hr) hrt ?_ (fun t ht hW => ⟨⟨some (.ref v), S, h, rfl, hq, by rw [ht]; exact ⟨hw.1, fun q => (hw.2.2 q).1⟩⟩, hw.2.1.F ht, fun q => by rw [ht, (hw.2.2 q).2, h3 q]⟩) hw.2.1.2.2 hd
    show va_rf (ma_ro g v) = .null ∨ ∃ a, va_rf (ma_ro g v) = .ref a
    cases ma_ro g v with
    | none => exact Or.inl rfl
    | some a => exact Or.inr ⟨a, rfl⟩
theorem ma_sw_inv {v : Int32} {F : Nat → Prop} : ∀ {ts : List Nat} {i j : Nat} {t : Nat}, ma_sw v F i ts → ts[j]? = some t → v = nI (i + j) → F t
  | [], _, _, _, _, h, _ => by simp at h
  | t0 :: ts, i, 0, t, hs, h, hv => by
    simp at h
    subst h
    exact hs.1 hv
  | t0 :: ts, i, j + 1, t, hs, h, hv => ma_sw_inv (ts := ts) (i := i + 1) (j := j) hs.2 (by simpa using h) (by rw [hv, show i + (j + 1) = i + 1 + j by omega])
theorem ma_s_tableswitch {l : Launch} {g : ma_G} {x : Bool} {scr : Option (Nat × (Nat → Int32))} {mi : ma_M} {P : List ma_E} {Q : ma_P} {K : ma_K} {k : Nat} {ls : List (Option Value)} {st : List Value} {c sl : Nat} {S : ma_S} {h : ma_H} {p : Program} {e : Env} {s : State} {m : MethodId} {args : Array Value} {below : List Frame} {meth : Method} {cd : Code} {H : Heap} {locs : List Loc} {la : Array Slot} {pc len : Nat} {d lo hi : Int} {offs : Array Int} {aux : List Nat}
    (hK : ∀ k ls st c sl S h, K k ls st c sl S h → ma_J l g x scr mi P Q k ls st c sl S h) (hd : decode mi.2.1 pc = .ok (.tableswitch d lo hi offs, len)) (ho : ma_okx mi P k pc (.tableswitch d lo hi offs) aux = true)
    (hx : ma_x x scr mi.2.2.2.2.2.1 mi.2.2.2.2.2.2 (ma_or l g x) (.tableswitch d lo hi offs) aux k ls st c sl S h K Q) (hB : ma_B g scr mi p s m args meth cd) (hw : ma_wH g x S h s H locs c) (hL : ma_L g mi.2.2.1 la ls) : ma_W l g x mi Q p e s m args below meth cd H locs c sl pc la (st.map (ma_tv g)) := by
  obtain ⟨z, st', rfl, hx1, hx2⟩ := ma_i1_inv hx
  simp only [ma_okx, Bool.and_eq_true, decide_eq_true_eq] at ho
  obtain ⟨⟨⟨⟨⟨rfl, h2⟩, h3⟩, h4⟩, h5⟩, h6⟩ := ho
  by_cases hin : vp_in z aux.tail.length
  · obtain ⟨j, hj, rfl⟩ := vp_in_of hin (by omega)
    have hT : (nI j).toInt = (j : Int) := nI_toInt (by omega)
    obtain ⟨q, hq1, hq2⟩ := ma_tgt_inv (List.all_eq_true.mp h6 j (List.mem_range.mpr hj))
    have e1 : aux.tail[j]? = some (aux.tail.getD j 0) := by rw [List.getD_eq_getElem?_getD, List.getElem?_eq_getElem hj]; rfl
    have e2 : offs[j]? = some (offs.getD j 0) := by
      have hj2 : j < offs.size := by rw [h5]; exact hj
      simp [hj2]
    refine lv_tableIn hB.1 hB.2.1 hd (by rw [hT]; omega) (by rw [hT]; omega) (off := offs.getD j 0) ?_ hq2 (ma_next hK (ma_sw_inv hx1 e1 (by rw [Nat.zero_add])) hq1 hB hw hL)
    rw [hT, show ((j : Int) - 0).toNat = j by omega]
    exact e2
  · obtain ⟨q, hq1, hq2⟩ := ma_tgt_inv h4
    refine lv_tableOut hB.1 hB.2.1 hd ?_ hq2 (ma_next hK (hx2 hin) hq1 hB hw hL)
    rw [vp_in_iff] at hin
    omega
theorem ma_pop_inv : ∀ {n : Nat} {st acc av rest : List Value}, ma_pop n st acc = some (av, rest) → ∃ as, av = as ++ acc ∧ st = as.reverse ++ rest ∧ as.length = n
  | 0, st, acc, av, rest, h => by
    simp [ma_pop] at h
    exact ⟨[], by simp [h.1], by simp [h.2], rfl⟩
  | n + 1, v :: st, acc, av, rest, h => by
    rw [ma_pop] at h
    obtain ⟨as, h1, h2, h3⟩ := ma_pop_inv h
    exact ⟨as ++ [v], by simp [h1], by simp [h2], by simp [h3]⟩
  | n + 1, [], acc, av, rest, h => by simp [ma_pop] at h
theorem ma_cat_eq (g : ma_G) : ∀ st : List Value, ((st.map (ma_tv g)).map fun v => v.category).sum = ma_cat st
  | [] => rfl
  | v :: st => by simp [ma_cat, ma_tv_cat, ← ma_cat_eq g st]
theorem ma_good {mi mj : ma_M} (h : Cond.code mj.1 mj.2.1 mj.2.2.1 mj.2.2.2.1 ∈ ma_wd) : GoodIn (ma_wo mi) (ma_wo mj) := by
  intro w hw
  have hw' : w ∈ ma_wd := by
    rcases List.mem_cons.mp hw with rfl | h2
    · exact h
    · exact h2
  exact ⟨List.mem_cons_of_mem _ hw', good_of_word (List.all_eq_true.mp ma_wdok w hw')⟩
/-- a call has run -/
theorem ma_ran {l : Launch} {g : ma_G} {x : Bool} {scr : Option (Nat × (Nat → Int32))} {mi mj : ma_M} {P : List ma_E} {Q post : ma_P} {K : ma_K} {k : Nat} {ls : List (Option Value)} {st rest : List Value} {c sl : Nat} {S : ma_S} {h : ma_H} {p : Program} {e : Env} {s : State} {m : MethodId} {args av : Array Value} {below : List Frame} {meth : Method} {cd : Code} {H : Heap} {locs : List Loc} {la : Array Slot} {pc : Nat}
    (hK : ∀ k ls st c sl S h, K k ls st c sl S h → ma_J l g x scr mi P Q k ls st c sl S h) (hn : ma_pcAt P (k + 1) = some (pc + 3)) (hB : ma_B g scr mi p s m args meth cd) (hw : ma_wH g x S h s H locs c) (hL : ma_L g mi.2.2.1 la ls)
    (hr : va_Run p l e (ma_rm mi) s m args below meth cd H locs c sl mj.2.2.2.2.2.1 mj.2.2.2.2.2.2 (F0 m pc la st) (rest.map (ma_tv g)) (ma_Qc g x mj.2.2.2.2.2.1 post av) (fun q => g.2.2.1 ≤ q))
    (hx : ∀ v S' h', post v S' h' → K (k + 1) ls (v.toList ++ rest) (c + mj.2.2.2.2.2.1) (sl + mj.2.2.2.2.2.2) S' h') : ma_W l g x mi Q p e s m args below meth cd H locs c sl pc la st := by
  intro T hT X
  obtain ⟨v, st₀, t, T', L, h0, X', hLf, e1, e2, ⟨⟨v', S', h', hv, hp, hat⟩, ⟨hz, hk⟩, hzz⟩, go⟩ := hr T hT X
  have hv' : v = v'.map (ma_tv g) := by cases hv; rfl
  subst hv'
  rw [h0] at hz hk hzz
  have hw' : ma_wH g x S' h' s T'.heap (locs ++ L) (c + mj.2.2.2.2.2.1) := by
    refine ⟨by rw [e1]; exact hat.1, ⟨Nat.le_trans hw.2.1.1 (by rw [e1]; exact hz), fun q g1 g2 => ?_, fun q hq => ?_⟩, fun hxt => ⟨by rw [e1]; exact hat.2 hxt, by rw [e1, hzz hxt, (hw.2.2 hxt).2]; omega⟩⟩
    · rw [e1, hk q (Nat.lt_of_lt_of_le g1 hw.2.1.1) g2]
      exact hw.2.1.2.1 q g1 g2
    · rcases List.mem_append.mp hq with h | h
      · exact hw.2.1.2.2 q h
      · exact hLf q h
  obtain ⟨t2, a1, b1⟩ := ma_next (below := below) (e := e) hK (hx v' S' h' hp) hn hB hw' hL T' rfl X'
  refine ⟨t2, go t2 ?_, b1⟩
  have e3 : (v'.toList ++ rest).map (ma_tv g) = (v'.map (ma_tv g)).toList ++ rest.map (ma_tv g) := by
    cases v' <;> simp
  rw [← e3]
  exact a1
theorem ma_okm_inv {mi : ma_M} {t n wi : Nat} (ho : ma_okm mi t n wi = true) : ∃ mj, ma_mt[t]? = some mj ∧ (mj.1.cls ≠ "java/lang/invoke/MethodHandle" ∧ mj.1.cls ≠ "java/lang/invoke/VarHandle" ∧ (parseMethodDescriptor mj.1.desc).map (fun d => d.parameters.length) = some n) ∧ ((ma_rm mj).frames + 1 ≤ (ma_rm mi).frames ∧ 8 + (mj.2.2.1 + 11) + (ma_rm mj).locals ≤ (ma_rm mi).locals) ∧ Cond.code mj.1 mj.2.1 mj.2.2.1 mj.2.2.2.1 ∈ ma_wd ∧ Cond.initialized mj.1.cls ∈ ma_wd := by
  unfold ma_okm at ho
  split at ho
  · rename_i mj hm
    simp only [Bool.and_eq_true, decide_eq_true_eq] at ho
    obtain ⟨⟨⟨⟨⟨h1, h2⟩, h3⟩, h4⟩, h5⟩, h7⟩ := ho
    exact ⟨mj, hm, ⟨h2, h3, h1⟩, ⟨h4, h5⟩, ma_mtok mj (List.mem_of_getElem? hm), ma_has_in h7⟩
  · cases ho
theorem ma_okl_inv {own : String} {idx : Nat} {y : MethodName} {nest w : Nat} {g : ma_G} {scr : Option (Nat × (Nat → Int32))} {mi : ma_M} {p : Program} {s : State} {m : MethodId} {args : Array Value} {meth : Method} {cd : Code} (ho : ma_okl own idx y nest w = true) (hB : ma_B g scr mi p s m args meth cd) : (Cond.methodLink own idx y).before args s = true ∨ ∃ host, va_Nw (.methodLinkNest own idx y host) s := by
  unfold ma_okl at ho
  split at ho
  · exact Or.inl (ma_wB hB (ma_has_in ho))
  · split at ho
    · rename_i q hq
      obtain ⟨e1, e2, e3⟩ := of_decide_eq_true ho
      refine Or.inr ⟨q.2.2.2, ?_⟩
      rw [← e1, ← e2, ← e3]
      exact hB.2.2.2.2.2.2.2.2.1.2.2.1 q (List.mem_of_getElem? hq)
    · cases ho
theorem ma_pre {g : ma_G} {x : Bool} {S : ma_S} {h : ma_H} {s : State} {H : Heap} {locs : List Loc} {c : Nat} (hw : ma_wH g x S h s H locs c) (hb : g.2.2.1 ≤ s.heap.size) (hk : ma_KK g s) (av : List Value) : PreS s H (ma_Pc g x av S h) (av.map (ma_tv g)) :=
  ⟨ma_blind g x av S h, fun U hU hW => ⟨rfl, ⟨by rw [hU]; exact hw.1, fun q => by rw [hU]; exact (hw.2.2 q).1⟩, by rw [hU]; exact Nat.le_trans hb hw.2.1.1, hk.moved hW⟩⟩
theorem ma_s_invokevirtual (i : Nat) (aux : List Nat) : ma_Snd (.invokevirtual i) aux := by
  intro l g x scr mi P Q K k ls st c sl S h p e s m args below meth cd H locs la pc hK hd hn ho hx hB hw hL
  simp only [ma_okx, Bool.and_eq_true] at ho
  obtain ⟨mj, hm, hdd, hR, hcode, hini⟩ := ma_okm_inv ho.1
  simp only [ma_x] at hx
  split at hx
  · rename_i av a rest hpop
    obtain ⟨hsh, hcat, mc', ms', post, ⟨mj', hm', rfl, rfl, hM⟩, hc1, hs1, hx⟩ := hx
    cases hm.symm.trans hm'
    obtain ⟨as, h1, h2, h3⟩ := ma_pop_inv hpop
    rw [List.append_nil] at h1
    subst h1
    subst h2
    obtain ⟨j, rfl, hS⟩ := ma_sh_some hsh
    have ho2 := ho.2
    simp only [ma_okv, hm] at ho2
    split at ho2
    · rename_i mj2 C T N hmj hc
      cases hmj
      simp only [Bool.and_eq_true, decide_eq_true_eq] at ho2
      obtain ⟨⟨⟨hC, hlink⟩, hi1⟩, hi2⟩ := ho2
      subst hC
      have he : (ma_ws g S h)[j]? = some (g.2.2.1 + j, .inr (ma_a aux 2, (ma_ty (ma_a aux 2)).mapIdx (fun k ty => ma_fv g h (j + 2) k ty))) := by rw [ma_ws_at, hS]; rfl
      have hrecv := va_recv hB.2.2.2.2.2.2.2.2.1.1 hw.1 hc he
      have hpre := ma_pre hw hB.2.2.2.2.2.2.2.2.2.1 hB.2.2.2.2.2.2.2.2.1 (.ref (j + 2) :: av)
      have hi1 := ma_wB hB (ma_has_in hi1)
      have hi2 := ma_wB hB (ma_has_in hi2)
      have hini2 := ma_wB hB hini
      have hstk : (F0 m pc la ((av.reverse ++ Value.ref (j + 2) :: rest).map (ma_tv g))).stack = (av.map (ma_tv g)).reverse ++ Value.ref (g.2.2.1 + j) :: rest.map (ma_tv g) := by
        show (av.reverse ++ Value.ref (j + 2) :: rest).map (ma_tv g) = _
        simp [ma_tv, ma_ro, va_rf]
      have hlen : (av.map (ma_tv g)).length = ma_a aux 1 := by simp [h3]
      have hcat2 : 2 * (F0 m pc la ((av.reverse ++ Value.ref (j + 2) :: rest).map (ma_tv g))).monitorRoom + ((rest.map (ma_tv g)).map fun v => v.category).sum ≤ 8 := by
        rw [ma_cat_eq]
        exact Nat.le_trans (Nat.le_of_eq (by show 2 * 0 + _ = _; omega)) hcat
      rcases ma_okl_inv hlink hB with hl1 | ⟨host, hl1⟩
      · exact ma_ran hK (hn rfl) hB hw hL (va_runV (As := av.map (ma_tv g)) ⟨hB.1, hB.2.1, hB.2.2.1, hB.2.2.2.2.2.2.2.1, hB.2.2.2.2.2.2.1⟩ hM ⟨callB_of (bytes := mj.2.1) (maxL := mj.2.2.1) (ret := mj.2.2.2.1) (ma_a aux 1) hB.2.2.2.2.2.2.1 (ma_good hcode) rfl rfl rfl hini2 hl1 hdd hR, hi1, hi2⟩ ⟨hpre.1, hrecv, hpre.2⟩ rfl hlen hL.1 hstk hcat2 hd ⟨hc1, hs1⟩) hx
      · exact ma_ran hK (hn rfl) hB hw hL (va_runVN (As := av.map (ma_tv g)) ⟨hB.1, hB.2.1, hB.2.2.1, hB.2.2.2.2.2.2.2.1, hB.2.2.2.2.2.2.1⟩ hM ⟨va_cnB (bytes := mj.2.1) (maxL := mj.2.2.1) (ret := mj.2.2.2.1) (ma_a aux 1) hB.2.2.2.2.2.2.1 (ma_good hcode) rfl rfl rfl hl1 hini2 hdd hR, hi1, hi2⟩ ⟨hpre.1, hrecv, hpre.2⟩ rfl hlen hL.1 hstk hcat2 hd ⟨hc1, hs1⟩) hx
    · cases ho2
  · exact hx.elim
theorem ma_s_invokestatic (i : Nat) (aux : List Nat) (ha : ¬ ma_a aux 0 = 0) : ma_Snd (.invokestatic i) aux := by
  intro l g x scr mi P Q K k ls st c sl S h p e s m args below meth cd H locs la pc hK hd hn ho hx hB hw hL
  simp only [ma_okx, if_neg ha, Bool.and_eq_true] at ho
  obtain ⟨mj, hm, hdd, hR, hcode, hini⟩ := ma_okm_inv ho.1
  simp only [ma_x, if_neg ha] at hx
  split at hx
  · rename_i av rest hpop
    obtain ⟨hcat, mc', ms', post, ⟨mj', hm', rfl, rfl, hM⟩, hc1, hs1, hx⟩ := hx
    cases hm.symm.trans hm'
    obtain ⟨as, h1, h2, h3⟩ := ma_pop_inv hpop
    rw [List.append_nil] at h1
    subst h1
    subst h2
    have ho2 := ho.2
    simp only [ma_oks, hm, Bool.and_eq_true] at ho2
    have hpre := ma_pre hw hB.2.2.2.2.2.2.2.2.2.1 hB.2.2.2.2.2.2.2.2.1 av
    have hi1 := ma_wB hB (ma_has_in ho2.2)
    have hini2 := ma_wB hB hini
    have hstk : (F0 m pc la ((av.reverse ++ rest).map (ma_tv g))).stack = (av.map (ma_tv g)).reverse ++ rest.map (ma_tv g) := by
      show (av.reverse ++ rest).map (ma_tv g) = _
      simp
    have hlen : (av.map (ma_tv g)).length = ma_a aux 1 := by simp [h3]
    have hcat2 : 2 * (F0 m pc la ((av.reverse ++ rest).map (ma_tv g))).monitorRoom + ((rest.map (ma_tv g)).map fun v => v.category).sum ≤ 8 := by
      rw [ma_cat_eq]
      exact Nat.le_trans (Nat.le_of_eq (by show 2 * 0 + _ = _; omega)) hcat
    rcases ma_okl_inv ho2.1 hB with hl1 | ⟨host, hl1⟩
    · exact ma_ran hK (hn rfl) hB hw hL (va_runS (As := av.map (ma_tv g)) ⟨hB.1, hB.2.1, hB.2.2.1, hB.2.2.2.2.2.2.2.1, hB.2.2.2.2.2.2.1⟩ hM ⟨callB_of (bytes := mj.2.1) (maxL := mj.2.2.1) (ret := mj.2.2.2.1) (ma_a aux 1) hB.2.2.2.2.2.2.1 (ma_good hcode) rfl rfl rfl hini2 hl1 hdd hR, hi1⟩ hpre rfl hlen hL.1 hstk hcat2 hd ⟨hc1, hs1⟩) hx
    · exact ma_ran hK (hn rfl) hB hw hL (va_runSN (As := av.map (ma_tv g)) ⟨hB.1, hB.2.1, hB.2.2.1, hB.2.2.2.2.2.2.2.1, hB.2.2.2.2.2.2.1⟩ hM ⟨va_cnB (bytes := mj.2.1) (maxL := mj.2.2.1) (ret := mj.2.2.2.1) (ma_a aux 1) hB.2.2.2.2.2.2.1 (ma_good hcode) rfl rfl rfl hl1 hini2 hdd hR, hi1, trivial⟩ hpre rfl hlen hL.1 hstk hcat2 hd ⟨hc1, hs1⟩) hx
  · exact hx.elim
theorem ma_s_invokespecial (i : Nat) (aux : List Nat) (ha : ¬ ma_a aux 0 = 0) : ma_Snd (.invokespecial i) aux := by
  intro l g x scr mi P Q K k ls st c sl S h p e s m args below meth cd H locs la pc hK hd hn ho hx hB hw hL
  simp only [ma_okx, if_neg ha, Bool.and_eq_true] at ho
  obtain ⟨ho1, ho2⟩ := ho
  obtain ⟨mj, hm, hdd, hR, hcode, hini⟩ := ma_okm_inv ho1
  simp only [ma_x, if_neg ha] at hx
  split at hx
  · rename_i av a rest hpop
    obtain ⟨⟨ci, hsh⟩, hcat, mc', ms', post, ⟨mj', hm', rfl, rfl, hM⟩, hc1, hs1, hx⟩ := hx
    cases hm.symm.trans hm'
    obtain ⟨as, h1, h2, h3⟩ := ma_pop_inv hpop
    rw [List.append_nil] at h1
    subst h1
    subst h2
    obtain ⟨j, rfl, hS⟩ := ma_sh_some hsh
    simp only [ma_oki, hm, Bool.and_eq_true, decide_eq_true_eq] at ho2
    obtain ⟨⟨ho3, ho2⟩, hi1⟩ := ho2
    have hpre := ma_pre hw hB.2.2.2.2.2.2.2.2.2.1 hB.2.2.2.2.2.2.2.2.1 (.ref (j + 2) :: av)
    have hi1 := ma_wB hB (ma_has_in hi1)
    have hini2 := ma_wB hB hini
    have hstk : (F0 m pc la ((av.reverse ++ Value.ref (j + 2) :: rest).map (ma_tv g))).stack = (av.map (ma_tv g)).reverse ++ Value.ref (g.2.2.1 + j) :: rest.map (ma_tv g) := by
      show (av.reverse ++ Value.ref (j + 2) :: rest).map (ma_tv g) = _
      simp [ma_tv, ma_ro, va_rf]
    have hlen : (av.map (ma_tv g)).length = ma_a aux 1 := by simp [h3]
    have hcat2 : 2 * (F0 m pc la ((av.reverse ++ Value.ref (j + 2) :: rest).map (ma_tv g))).monitorRoom + ((rest.map (ma_tv g)).map fun v => v.category).sum ≤ 8 := by
      rw [ma_cat_eq]
      exact Nat.le_trans (Nat.le_of_eq (by show 2 * 0 + _ = _; omega)) hcat
    have hwo : ma_wo mj = Cond.code mj.1 mj.2.1 mj.2.2.1 none :: ma_wd := by rw [← ho3.2]; rfl
    rcases ma_okl_inv ho2 hB with hl1 | ⟨host, hl1⟩
    · exact ma_ran hK (hn rfl) hB hw hL (va_runI (As := av.map (ma_tv g)) ⟨hB.1, hB.2.1, hB.2.2.1, hB.2.2.2.2.2.2.2.1, hB.2.2.2.2.2.2.1⟩ hM ⟨callB_of (bytes := mj.2.1) (maxL := mj.2.2.1) (ret := none) (ma_a aux 1) hB.2.2.2.2.2.2.1 (ma_good hcode) hwo rfl rfl hini2 hl1 hdd hR, ho3.1, hi1⟩ hpre rfl hlen hL.1 hstk hcat2 hd ⟨hc1, hs1⟩) hx
    · exact ma_ran hK (hn rfl) hB hw hL (va_runIN (As := av.map (ma_tv g)) ⟨hB.1, hB.2.1, hB.2.2.1, hB.2.2.2.2.2.2.2.1, hB.2.2.2.2.2.2.1⟩ hM ⟨va_cnB (bytes := mj.2.1) (maxL := mj.2.2.1) (ret := none) (ma_a aux 1) hB.2.2.2.2.2.2.1 (ma_good hcode) hwo rfl rfl hl1 hini2 hdd hR, ho3.1, hi1⟩ hpre rfl hlen hL.1 hstk hcat2 hd ⟨hc1, hs1⟩) hx
  · exact hx.elim
theorem ma_s_objinit (i : Nat) (aux : List Nat) (ha : ma_a aux 0 = 0) : ma_Snd (.invokespecial i) aux := by
  intro l g x scr mi P Q K k ls st c sl S h p e s m args below meth cd H locs la pc hK hd hn ho hx hB hw hL
  simp only [ma_okx, if_pos ha, Bool.and_eq_true, decide_eq_true_eq] at ho
  obtain ⟨⟨⟨h1, h2⟩, h3⟩, h4⟩ := ho
  have h1 := ma_has_in h1
  have h2 := ma_has_in h2
  have h3 := ma_has_in h3
  simp only [ma_x, if_pos ha] at hx
  obtain ⟨a, st', rfl, ⟨ci, hsh⟩, hcat, hx2⟩ := ma_r1_inv hx
  obtain ⟨j, rfl, hS⟩ := ma_sh_some hsh
  refine W.objInit hB.1 hB.2.1 hB.2.2.2.2.2.2.2.1 (ma_wB hB h1) (ma_wB hB h2) (ma_wB hB h3) rfl (by rw [hB.2.2.1]; exact hL.1) (a := g.2.2.1 + j) (rest := st'.map (ma_tv g)) rfl hd h4 ?_ (ma_next hK hx2 (hn rfl) hB hw hL)
  rw [ma_cat_eq]
  show 2 * 0 + ma_cat st' + 12 ≤ min (50 * mi.2.2.2.2.1) 338
  omega
theorem ma_s_arraycopy (i : Nat) (aux : List Nat) (ha : ma_a aux 0 = 0) : ma_Snd (.invokestatic i) aux := by
  intro l g x scr mi P Q K k ls st c sl S h p e s m args below meth cd H locs la pc hK hd hn ho hx hB hw hL
  simp only [ma_okx, if_pos ha, Bool.and_eq_true, decide_eq_true_eq] at ho
  obtain ⟨⟨⟨⟨h1, h2⟩, h3⟩, h4⟩, h5⟩ := ho
  have h1 := ma_has_in h1
  have h2 := ma_has_in h2
  have h3 := ma_has_in h3
  have h4 := ma_has_in h4
  simp only [ma_x, if_pos ha] at hx
  split at hx
  · rename_i n dp a sp a0 rest
    obtain ⟨hcat, N0, N1, d0, d1, mm, hs0, hs1, rfl, rfl, rfl, hb0, hb1, hl0, hl1, hx⟩ := hx
    obtain ⟨j0, rfl, hS0⟩ := ma_sh_some hs0
    obtain ⟨j1, rfl, hS1⟩ := ma_sh_some hs1
    have hKK := hB.2.2.2.2.2.2.2.2.1.1
    have c0 : (nI d0).toNatClampNeg = d0 := nI_clamp (by omega)
    have c1 : (nI d1).toNatClampNeg = d1 := nI_clamp (by omega)
    have c2 : (nI mm).toNatClampNeg = mm := nI_clamp (by omega)
    refine va_copyi (A := fun q => g.2.2.1 ≤ q) hB.1 hB.2.1 (by rw [hB.2.2.1]; exact hL.1.symm) hB.2.2.2.2.2.2.2.1 (ma_wB hB h1) (ma_wB hB h2) (ma_wB hB h3) (ma_wB hB h4) hKK hw.1 (ma_D g S h) hw.rfS j0 j1 0 0 (ty := .int) (ma_ws_arr g S h j0 N0 _ hS0) (ma_ws_arr g S h j1 N1 _ hS1) rfl rfl rfl (nI_pos (by omega)) (nI_pos (by omega)) (nI_pos (by omega)) (by rw [c0, c2]; exact hb0) (by rw [c1, c2]; exact hb1) (fun i _ => rfl) h5 ?_ hd (fun H1 locs1 hP1 hD1 hS1' => ?_)
    · rw [ma_cat_eq]
      show ma_cat rest + (nativeFrameWords "java/lang/System" "arraycopy" 5 + 11) ≤ min (50 * mi.2.2.2.2.1) 338
      have : nativeFrameWords "java/lang/System" "arraycopy" 5 + 11 ≤ 42 := by decide
      omega
    · rw [c0, c1, c2] at hP1
      have e1 : (ma_ws g S h).set j1 (g.2.2.1 + j1, .inl (g.2.2.2 .int, N1, .inl (va_cpy (h.1 (j0 + 2)) (h.1 (j1 + 2)) d0 d1 mm))) = ma_ws g S (ma_cp h (j0 + 2) d0 (j1 + 2) d1 mm) := by
        refine ma_ws_set g S h _ j1 hS1 ?_ (fun j' sh' hj _ => ma_cell_other (h := h) (h' := ma_cp h (j0 + 2) d0 (j1 + 2) d1 mm) (fun i => ?_) (fun i => rfl) (fun i => rfl) sh')
        · show Sum.inl (_, _, Sum.inl ((ma_cp h (j0 + 2) d0 (j1 + 2) d1 mm).1 (j1 + 2))) = _
          congr 4
          funext q
          simp only [ma_cp, true_and]
          by_cases hq : d1 ≤ q ∧ q < d1 + mm
          · rw [if_pos hq, pk_cpy_in hq.1 hq.2]
          · rw [if_neg hq, pk_cpy_out (by omega)]
        · show (if j' + 2 = j1 + 2 ∧ d1 ≤ i ∧ i < d1 + mm then _ else _) = _
          rw [if_neg (fun q => hj (by omega))]
      have hP2 : va_P g.1 ma_cl (ma_ws g S (ma_cp h (j0 + 2) d0 (j1 + 2) d1 mm)) H1 := by rw [← e1]; exact hP1
      exact ma_Wsz fun hz => ma_next hK hx (hn rfl) hB (hw.step hS1' hP2 hz) hL
  · exact hx.elim
