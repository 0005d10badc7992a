/-! methods of classes with natives of their own, which are none themselves -/
theorem ma_ofF {l : Launch} {y : MethodName} {ws ws' : List Cond} {rm : Room} {Pc : Array Value → State → Prop} {Qc : Array Value → State → Outcome → State → Prop} {mc ms : Nat} {free : Addr → Prop} {cc : ByteArray} {maxL : Nat} {ret : Option FieldType}
    (hy : plainFor y = true) (hw : ws = Cond.code y cc maxL ret :: ws')
    (body : ∀ p e s m args below meth c s₁, BodyLoose p l y (headSpec ws rm) cc maxL ret e s m args below meth c s₁ → c.maxLocals = maxL → Pc args s →
      W p l e (headSpec ws rm).room s m args below meth c s.heap [] 0 0 (MQ below Qc args s mc ms free) (entryFrame m args maxL)) : Met l y ws rm Pc Qc mc ms free := by
  refine MetFree.of_bodySF (code := cc) (maxLocals := maxL) (ret := ret) hy (fun args s m h hn => ?_) (fun p e s m args below meth c s₁ B hml hP _ => ?_)
  · obtain ⟨meth, c, h1, h2, h3, h4, h5, h6, -⟩ := Cond.code_spec hn (atoms_spec (ws := ws) h _ (by rw [hw]; exact List.mem_cons_self))
    exact ⟨meth, c, h1, h2, h3, h4, h5, h6⟩
  · obtain ⟨t, st, o, r, en, q⟩ := body p e s m args below meth c s₁ B hml hP s₁ (by rw [B.state]; rfl) (Stand.of_body B)
    exact ⟨t, o, st, r, en, q⟩
theorem ma_PM_for {l : Launch} {g : ma_G} {x : Bool} {mi : ma_M} {P : List ma_E} {av : List Value} {S : ma_S} {h : ma_H} {Q : ma_P} (hpl : plainFor mi.1 = true) (hp0 : ma_pcAt P 0 = some 0) (hlen : (ma_en av).length ≤ mi.2.2.1)
    (hJ : ma_J l g x none mi P Q 0 (ma_en av ++ List.replicate (mi.2.2.1 - (ma_en av).length) none) [] 0 0 S h) : ma_PM l g x mi av S h Q := by
  refine ma_ofF (cc := mi.2.1) (maxL := mi.2.2.1) (ret := mi.2.2.2.1) hpl rfl ?_
  intro p e s m args below meth c s₁ B hml hv
  obtain ⟨rfl, hat, hb, hKK⟩ := hv
  rw [lg_entry_eq]
  have hl := lv_entry (av.map (ma_tv g)) (n := mi.2.2.1) (by rw [ma_en_len]; exact hlen)
  have hL : ma_L g mi.2.2.1 ((lg_sl (av.map (ma_tv g)) ++ List.replicate (mi.2.2.1 - (lg_sl (av.map (ma_tv g))).length) Slot.unset).toArray) (ma_en av ++ List.replicate (mi.2.2.1 - (ma_en av).length) none) := by
    refine ⟨hl.1, hl.2.1, by simp; omega, fun i v hi => ?_⟩
    have hi2 : (ma_en av)[i]? = some (some v) := by
      by_cases hlt : i < (ma_en av).length
      · rw [List.getElem?_append_left hlt] at hi
        exact hi
      · rw [List.getElem?_append_right (by omega), List.getElem?_replicate] at hi
        split at hi <;> simp at hi
    have := ma_en_at g av 0 i v hi2
    rw [Nat.zero_add] at this
    exact hl.2.2 _ this
  refine hJ p e s m _ below meth c s.heap [] _ 0 ⟨B.exec, B.bytes, hml, B.returns, B.notSynchronized, (name_of_methodNamed B.named B.method).1, atoms_spec (ws := ma_wo mi) B.pre, findClass_of_methodNamed B.named, hKK, hb, fun L xs q => by cases q⟩ ⟨hat.1, va_S.rf, fun q => ⟨hat.2 q, rfl⟩⟩ hL hp0

theorem bC_s {s t : Nat} (hs : s < 4) (ht : t < 97) : (nI 0 ≤ nI s - nI t ^^^ nI 4 → ma_irem (nI s - nI t) (nI 4) = nI ((s + 4 * 32 - t) % 4)) ∧ (¬ nI 0 ≤ nI s - nI t ^^^ nI 4 → (ma_irem (nI s - nI t) (nI 4) = nI 0 → ma_irem (nI s - nI t) (nI 4) = nI ((s + 4 * 32 - t) % 4)) ∧ (¬ ma_irem (nI s - nI t) (nI 4) = nI 0 → ma_irem (nI s - nI t) (nI 4) + nI 4 = nI ((s + 4 * 32 - t) % 4))) := by
  have : ∀ s, s < 4 → ∀ t, t < 97 → (nI 0 ≤ nI s - nI t ^^^ nI 4 → ma_irem (nI s - nI t) (nI 4) = nI ((s + 4 * 32 - t) % 4)) ∧ (¬ nI 0 ≤ nI s - nI t ^^^ nI 4 → (ma_irem (nI s - nI t) (nI 4) = nI 0 → ma_irem (nI s - nI t) (nI 4) = nI ((s + 4 * 32 - t) % 4)) ∧ (¬ ma_irem (nI s - nI t) (nI 4) = nI 0 → ma_irem (nI s - nI t) (nI 4) + nI 4 = nI ((s + 4 * 32 - t) % 4))) := by decide +kernel
  exact this s hs t ht
theorem m_floorMod (l : Launch) (g : ma_G) (x : Bool) {h : ma_H} {s t : Nat} (hs : s < 4) (ht : t < 97) : ma_PM l g x me_Mth_floorMod [.int (nI s - nI t), .int (nI 4)] GS h (fun v S' h' => v = some (.int (nI ((s + 4 * 32 - t) % 4))) ∧ S' = GS ∧ h' = h) := by
  refine ma_PM_for (P := pr_Mth_floorMod) (by decide +kernel) rfl (Nat.le_of_ble_eq_true rfl) ?_
  show ma_J l g x none me_Mth_floorMod pr_Mth_floorMod _ 0 [some (.int (nI s - nI t)), some (.int (nI 4)), none] [] 0 0 GS h
  refine ma_run0 po_Mth_floorMod rfl rfl [] 80 ?_
  simp only [pa_Mth_floorMod, ma_go, ev_A, ev_B, ev_C, ev_D, Nat.reduceAdd, List.mem_cons, List.not_mem_nil, or_false, or_true, true_or, false_or, or_self, Nat.reduceEqDiff, reduceCtorEq, ↓reduceIte, List.length_cons, List.length_nil, Nat.reduceLT, Nat.reduceLeDiff, Nat.le_refl, implies_true, true_and, and_true, Option.toList, List.cons_append, List.nil_append]
  obtain ⟨a1, a2⟩ := bC_s hs ht
  exact ⟨nx_ne0 (by decide) (by decide), fun q => by rw [a1 q], fun q => ⟨fun q2 => by rw [(a2 q).1 q2], fun q2 => by rw [(a2 q).2 q2]⟩⟩
