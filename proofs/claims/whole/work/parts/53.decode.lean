/-! decode of the class -/
theorem ar_any (h : ma_H) (a n : Nat) : ∃ f, ar h a n f := ⟨fun i => (wb_of32 (h.1 a i)).choose, fun i _ => by have := (wb_of32 (h.1 a i)).choose_spec.2; first | exact this | exact this.symm⟩
/-- the reads that are held: their rows, lengths and letters -/
def rd (h : ma_H) (R : Nat) (N : Nat → Nat) (F : Nat → Nat → Nat) : Prop := ∀ k, k < R → (70 ≤ h.2.2 69 k ∧ h.2.2 69 k ≤ 159) ∧ N k ≤ 60 ∧ rf h (h.2.2 69 k) (N k) (F k)
theorem rd_on {h h' : ma_H} {L : List Nat} (ho : on h h' L) (hL : ∀ a, 70 ≤ a → a ≤ 159 → a ∉ L) {R : Nat} {N : Nat → Nat} {F : Nat → Nat → Nat} (hr : rd h R N F) : rd h' R N F := fun k hk => by
  obtain ⟨h1, h2, h3⟩ := hr k hk
  have e : h'.2.2 69 k = h.2.2 69 k := by rw [ho.1]
  rw [e]
  exact ⟨h1, h2, rf_onr (onr_on ho) (hL _ h1.1 h1.2) h3⟩
section
variable (l : Launch) (g : ma_G) (x : Bool) {h : ma_H}
theorem m_decodeN {n : Int32} (hn : ¬ (nI 1 ≤ n ∧ n ≤ nI 160)) : ma_PM l g x me_Arc_decode [.ref 2, .int n] GS h (fun v S' h' => v = some (.int (-1)) ∧ S' = GS ∧ h' = h) := by
  refine ma_PM_of (P := pr_Arc_decode) (by decide) rfl (Nat.le_of_ble_eq_true rfl) ?_
  show ma_J l g x none me_Arc_decode pr_Arc_decode _ 0 [some (.ref 2), some (.int n), none, none] [] 0 0 GS h
  refine ma_run0 po_Arc_decode rfl rfl [5] 60 ?_
  simp only [pa_Arc_decode, ma_go, ev_A, ev_B, ev_C, ev_D, Nat.reduceAdd, List.mem_cons, List.not_mem_nil, or_false, or_true, true_or, false_or, or_self, Nat.reduceEqDiff, reduceCtorEq, ↓reduceIte, List.length_cons, List.length_nil, Nat.reduceLT, Nat.reduceLeDiff, Nat.le_refl, implies_true, true_and, and_true, Option.toList, List.cons_append, List.nil_append]
  refine ma_callD mt_Arc_isSize rfl rfl (Nat.le_of_ble_eq_true rfl) (Nat.le_refl _) (Nat.le_refl _) (m_isSize l g x GS n) ?_
  simp only [pa_Arc_decode, ma_go, ev_A, ev_B, ev_C, ev_D, Nat.reduceAdd, List.mem_cons, List.not_mem_nil, or_false, or_true, true_or, false_or, or_self, Nat.reduceEqDiff, reduceCtorEq, ↓reduceIte, List.length_cons, List.length_nil, Nat.reduceLT, Nat.reduceLeDiff, Nat.le_refl, implies_true, true_and, and_true, Option.toList, List.cons_append, List.nil_append]
  rw [show decide (nI 1 ≤ n ∧ n ≤ nI 160) = false from decide_eq_false hn]
  exact fun q => absurd rfl q
theorem m_decode (hp : pt_ok h) (hf : fd_ok h) {n R : Nat} {N : Nat → Nat} {F : Nat → Nat → Nat} {w0 : Nat → Nat} (hn : 1 ≤ n ∧ n ≤ 160) (hR : R ≤ 90) (e4 : h.1 2 4 = nI R) (hr : rd h R N F) (hw : wf w0) (hb : bd h 177 w0) : ma_PM l g x me_Arc_decode [.ref 2, .int (nI n)] GS h (fun v S' h' => S' = GS ∧ on h h' [164, 165, 166, 167, 168, 169, 170, 171, 175, 176, 177, 178, 179, 180, 181, 182, 183] ∧ (∃ w', wf w' ∧ bd h' 177 w') ∧ ∃ o V, dst h' n (dcl (bl n) N F R) (dsd (bl n) N F o R) (dfx (bl n) N F R) (ddr (bl n) N F R + sm (16 * bl n) (dq (dcl (bl n) N F R))) ∧ (∀ b, b < bl n → h'.1 182 b = nI (gf_cn 16 (gn (dcl (bl n) N F R) b)) ∧ BR n (dcl (bl n) N F R) (dsd (bl n) N F o R) b (V b) (h'.1 183 b) (h'.1 181)) ∧ v = some (.int (nI (aw V (bl n))))) := by
  refine ma_PM_of (P := pr_Arc_decode) (by decide) rfl (Nat.le_of_ble_eq_true rfl) ?_
  show ma_J l g x none me_Arc_decode pr_Arc_decode _ 0 [some (.ref 2), some (.int (nI n)), none, none] [] 0 0 GS h
  generalize hQ : (fun (v : Option Value) (S' : ma_S) (h' : ma_H) => S' = GS ∧ on h h' [164, 165, 166, 167, 168, 169, 170, 171, 175, 176, 177, 178, 179, 180, 181, 182, 183] ∧ (∃ w', wf w' ∧ bd h' 177 w') ∧ ∃ o V, dst h' n (dcl (bl n) N F R) (dsd (bl n) N F o R) (dfx (bl n) N F R) (ddr (bl n) N F R + sm (16 * bl n) (dq (dcl (bl n) N F R))) ∧ (∀ b, b < bl n → h'.1 182 b = nI (gf_cn 16 (gn (dcl (bl n) N F R) b)) ∧ BR n (dcl (bl n) N F R) (dsd (bl n) N F o R) b (V b) (h'.1 183 b) (h'.1 181)) ∧ v = some (.int (nI (aw V (bl n))))) = Q
  have hB : bl n ≤ 4 := by unfold bl; omega
  obtain ⟨o, ho⟩ := ar_any h 180 256
  have hcl : ∀ k, k < 64 → dcl (bl n) N F R k < 1000 := fun k _ => by have := dcl_le (B := bl n) (N := N) (F := F) k R; omega
  have loop2 : ∀ m b V H, b + m = bl n → on h H [164, 165, 166, 167, 168, 169, 170, 171, 175, 176, 177, 178, 179, 180, 181, 182, 183] → (∃ w', wf w' ∧ bd H 177 w') → dst H n (dcl (bl n) N F R) (dsd (bl n) N F o R) (dfx (bl n) N F R) (ddr (bl n) N F R + sm (16 * b) (dq (dcl (bl n) N F R))) → (∀ c, c < b → H.1 182 c = nI (gf_cn 16 (gn (dcl (bl n) N F R) c)) ∧ BR n (dcl (bl n) N F R) (dsd (bl n) N F o R) c (V c) (H.1 183 c) (H.1 181)) → ma_J l g x none me_Arc_decode pr_Arc_decode Q 28 [some (.ref 2), some (.int (nI n)), some (.int (nI (aw V b))), some (.int (nI b))] [] 0 0 GS H := by
    intro m
    induction m with
    | zero =>
      intro b V H hm oH hw hd hc
      have e : b = bl n := by omega
      refine ma_run0 po_Arc_decode rfl rfl [28, 32] 80 ?_
      simp only [pa_Arc_decode, ma_go, ev_A, ev_B, ev_C, ev_D, Nat.reduceAdd, List.mem_cons, List.not_mem_nil, or_false, or_true, true_or, false_or, or_self, Nat.reduceEqDiff, reduceCtorEq, ↓reduceIte, List.length_cons, List.length_nil, Nat.reduceLT, Nat.reduceLeDiff, Nat.le_refl, implies_true, true_and, and_true, Option.toList, List.cons_append, List.nil_append]
      refine ma_callD mt_Arc_blocksOf rfl rfl (Nat.le_of_ble_eq_true rfl) (Nat.le_refl _) (Nat.le_refl _) (m_blocksOf l g x GS hn.2) ?_
      simp only [pa_Arc_decode, ma_go, ev_A, ev_B, ev_C, ev_D, Nat.reduceAdd, List.mem_cons, List.not_mem_nil, or_false, or_true, true_or, false_or, or_self, Nat.reduceEqDiff, reduceCtorEq, ↓reduceIte, List.length_cons, List.length_nil, Nat.reduceLT, Nat.reduceLeDiff, Nat.le_refl, implies_true, true_and, and_true, Option.toList, List.cons_append, List.nil_append]
      refine ⟨fun _ => ?_, fun q => absurd (nI_le (by omega) (by omega)) q⟩
      rw [← hQ]
      have fin : ∀ v, v = aw V b → (fun (v : Option Value) (S' : ma_S) (h' : ma_H) => S' = GS ∧ on h h' [164, 165, 166, 167, 168, 169, 170, 171, 175, 176, 177, 178, 179, 180, 181, 182, 183] ∧ (∃ w', wf w' ∧ bd h' 177 w') ∧ ∃ o V, dst h' n (dcl (bl n) N F R) (dsd (bl n) N F o R) (dfx (bl n) N F R) (ddr (bl n) N F R + sm (16 * bl n) (dq (dcl (bl n) N F R))) ∧ (∀ b, b < bl n → h'.1 182 b = nI (gf_cn 16 (gn (dcl (bl n) N F R) b)) ∧ BR n (dcl (bl n) N F R) (dsd (bl n) N F o R) b (V b) (h'.1 183 b) (h'.1 181)) ∧ v = some (.int (nI (aw V (bl n))))) (some (.int (nI v))) GS H := fun v hv => by
        rw [e] at hd hc hv
        exact ⟨rfl, oH, hw, o, V, hd, hc, by rw [hv]⟩
      rcases aw_01 V b with q | q
      · rw [q]
        refine ⟨fun _ => fin 0 q.symm, fun z => absurd rfl z⟩
      · rw [q]
        refine ⟨fun z => absurd z n10, fun _ => fin 1 q.symm⟩
    | succ m ih =>
      intro b V H hm oH hw hd hc
      have hpH := on_pt oH hp
      refine ma_run0 po_Arc_decode rfl rfl [28, 45] 80 ?_
      simp only [pa_Arc_decode, ma_go, ev_A, ev_B, ev_C, ev_D, Nat.reduceAdd, List.mem_cons, List.not_mem_nil, or_false, or_true, true_or, false_or, or_self, Nat.reduceEqDiff, reduceCtorEq, ↓reduceIte, List.length_cons, List.length_nil, Nat.reduceLT, Nat.reduceLeDiff, Nat.le_refl, implies_true, true_and, and_true, Option.toList, List.cons_append, List.nil_append, gs_2, gs_175, pt_Arc hpH]
      refine ma_callD mt_Arc_blocksOf rfl rfl (Nat.le_of_ble_eq_true rfl) (Nat.le_refl _) (Nat.le_refl _) (m_blocksOf l g x GS hn.2) ?_
      simp only [pa_Arc_decode, ma_go, ev_A, ev_B, ev_C, ev_D, Nat.reduceAdd, List.mem_cons, List.not_mem_nil, or_false, or_true, true_or, false_or, or_self, Nat.reduceEqDiff, reduceCtorEq, ↓reduceIte, List.length_cons, List.length_nil, Nat.reduceLT, Nat.reduceLeDiff, Nat.le_refl, implies_true, true_and, and_true, Option.toList, List.cons_append, List.nil_append, gs_2, gs_175, pt_Arc hpH]
      refine ⟨fun q => absurd q (nI_ge (by omega) (by omega)), fun _ => ?_⟩
      refine ma_callP mt_Dec_finishBlock rfl rfl (Nat.le_of_ble_eq_true rfl) (Nat.le_refl _) (Nat.le_refl _) (m_finishBlock l g x hpH (fd_on oH (by decide) (by decide) hf) (show b < 4 by omega) hcl (fun s hs e c c4 => (dsd_eq c4 o o R (by rw [e]; decide)).2) hd) ?_
      intro v S' H2 hpost
      obtain ⟨rfl, o2, d2, a1, a2, a3, a4⟩ := hpost
      have o3 := on_tr oH (on_mo (L' := [164, 165, 166, 167, 168, 169, 170, 171, 175, 176, 177, 178, 179, 180, 181, 182, 183]) o2 (by simp))
      obtain ⟨w', hw1, hw2⟩ := hw
      have hb2 : ∃ w', wf w' ∧ bd H2 177 w' := ⟨w', hw1, bd_on o2 (by decide) (by decide) hw2⟩
      rw [Nat.add_assoc, dq_st] at d2
      have hv : ∃ u, u < 2 ∧ v = some (.int (nI u)) ∧ BR n (dcl (bl n) N F R) (dsd (bl n) N F o R) b u (H2.1 183 b) (H2.1 181) := by
        rcases a4 with ⟨rfl, ws, l4, md, c1, c2⟩ | ⟨rfl, no, c1, c2⟩
        · exact ⟨1, by decide, rfl, Or.inl ⟨rfl, ws, l4, md, c1, fun k hk hb => by rw [c2 k, cwL_in hb _ _ ws l4]⟩⟩
        · exact ⟨0, by decide, rfl, Or.inr ⟨rfl, no, c1, fun k hk hb => (c2 k).1 hb⟩⟩
      have hout : ∀ k, ¬ (40 * b ≤ k ∧ k < 40 * b + 40) → H2.1 181 k = H.1 181 k := fun k hk => by
        rcases a4 with ⟨rfl, ws, l4, md, c1, c2⟩ | ⟨rfl, no, c1, c2⟩
        · rw [c2 k, cwL_out hk]
        · exact (c2 k).2 hk
      obtain ⟨u, u2, rfl, br⟩ := hv
      have nxt : ∀ t, t = aw (up V b u) (b + 1) → ma_J l g x none me_Arc_decode pr_Arc_decode Q 28 [some (.ref 2), some (.int (nI n)), some (.int (nI t)), some (.int (nI (b + 1)))] [] 0 0 GS H2 := fun t ht => by
        rw [ht]
        refine ih (b + 1) (up V b u) H2 (by omega) o3 hb2 d2 (fun c hc2 => ?_)
        unfold up
        by_cases e : c = b
        · rw [if_pos e, e]
          exact ⟨a1, br⟩
        · rw [if_neg e, a2 c e, a3 c e]
          refine ⟨(hc c (by omega)).1, BR_keep (fun k _ hk => hout k (by omega)) (hc c (by omega)).2⟩
      have ea : aw (up V b u) b = aw V b := aw_congr b (fun c hc => if_neg (by omega))
      have es : aw (up V b u) (b + 1) = if u = 1 then aw V b else 0 := by
        rw [aw, ea]
        unfold up
        rw [if_pos rfl]
      simp only [pa_Arc_decode, ma_go, ev_A, ev_B, ev_C, ev_D, Nat.reduceAdd, List.mem_cons, List.not_mem_nil, or_false, or_true, true_or, false_or, or_self, Nat.reduceEqDiff, reduceCtorEq, ↓reduceIte, List.length_cons, List.length_nil, Nat.reduceLT, Nat.reduceLeDiff, Nat.le_refl, implies_true, true_and, and_true, Option.toList, List.cons_append, List.nil_append]
      rw [nx_1]
      by_cases e1 : u = 1
      · subst e1
        rw [if_pos rfl] at es
        refine ⟨fun q => absurd q n10, fun _ => ?_⟩
        rcases aw_01 V b with q | q
        · rw [q]
          exact ⟨fun _ => nxt 0 (by rw [es, q]), fun z => absurd rfl z⟩
        · rw [q]
          exact ⟨fun z => absurd z n10, fun _ => nxt 1 (by rw [es, q])⟩
      · have e0 : u = 0 := by omega
        subst e0
        rw [if_neg (by decide)] at es
        exact ⟨fun _ => nxt 0 es.symm, fun z => absurd rfl z⟩
  have loop1 : ∀ m k H, k + m = R → on h H [175, 176, 177, 178, 179, 180] → (∃ w', wf w' ∧ bd H 177 w') → dst H n (dcl (bl n) N F k) (dsd (bl n) N F o k) (dfx (bl n) N F k) (ddr (bl n) N F k) → ma_J l g x none me_Arc_decode pr_Arc_decode Q 11 [some (.ref 2), some (.int (nI n)), some (.int (nI k)), none] [] 0 0 GS H := by
    intro m
    induction m with
    | zero =>
      intro k H hm oH hw hd
      have e : k = R := by omega
      have e4' : H.1 2 4 = nI R := by rw [oH.2 2 (by decide)]; exact e4
      refine ma_run0 po_Arc_decode rfl rfl [11, 15, 28] 80 ?_
      simp only [pa_Arc_decode, ma_go, ev_A, ev_B, ev_C, ev_D, Nat.reduceAdd, List.mem_cons, List.not_mem_nil, or_false, or_true, true_or, false_or, or_self, Nat.reduceEqDiff, reduceCtorEq, ↓reduceIte, List.length_cons, List.length_nil, Nat.reduceLT, Nat.reduceLeDiff, Nat.le_refl, implies_true, true_and, and_true, Option.toList, List.cons_append, List.nil_append, gs_2, e4']
      refine ⟨fun _ => ?_, fun q => absurd (nI_le (by omega) (by omega)) q⟩
      rw [e] at hd
      exact loop2 (bl n) 0 (fun _ => 0) H (by omega) (on_mo oH (by simp)) hw hd (fun c hc => by omega)
    | succ m ih =>
      intro k H hm oH hw hd
      have hpH := on_pt oH hp
      have e4' : H.1 2 4 = nI R := by rw [oH.2 2 (by decide)]; exact e4
      obtain ⟨r1, r2, r3⟩ := rd_on oH (fun a h1 h2 hc => by simp at hc; omega) hr k (by omega)
      obtain ⟨w', hw1, hw2⟩ := hw
      refine ma_run0 po_Arc_decode rfl rfl [11, 28] 80 ?_
      simp only [pa_Arc_decode, ma_go, ev_A, ev_B, ev_C, ev_D, Nat.reduceAdd, List.mem_cons, List.not_mem_nil, or_false, or_true, true_or, false_or, or_self, Nat.reduceEqDiff, reduceCtorEq, ↓reduceIte, List.length_cons, List.length_nil, Nat.reduceLT, Nat.reduceLeDiff, Nat.le_refl, implies_true, true_and, and_true, Option.toList, List.cons_append, List.nil_append, gs_2, gs_69, gs_175, e4', pt_Arc hpH]
      rw [nI_clamp (n := k) (by omega)]
      refine ⟨fun q => absurd q (nI_ge (by omega) (by omega)), fun _ => ⟨ma_in_of gs_69 (by omega) (by decide), ?_⟩⟩
      refine ma_callP mt_Dec_take rfl rfl (Nat.le_of_ble_eq_true rfl) (Nat.le_refl _) (Nat.le_refl _) (m_take l g x hpH hn.2 (Or.inr r1) r3 r2 hw1 hw2 hd) ?_
      intro v S' H2 hpost
      obtain ⟨rfl, rfl, o2, hb2, hh⟩ := hpost
      simp only [pa_Arc_decode, ma_go, ev_A, ev_B, ev_C, ev_D, Nat.reduceAdd, List.mem_cons, List.not_mem_nil, or_false, or_true, true_or, false_or, or_self, Nat.reduceEqDiff, reduceCtorEq, ↓reduceIte, List.length_cons, List.length_nil, Nat.reduceLT, Nat.reduceLeDiff, Nat.le_refl, implies_true, true_and, and_true, Option.toList, List.cons_append, List.nil_append]
      rw [nx_1]
      refine ih (k + 1) H2 (by omega) (on_tr oH o2) hb2 ?_
      rcases hh with ⟨t1, t2⟩ | ⟨p, w, t1, t2, t3⟩
      · obtain ⟨z1, z2, z3, z4⟩ := d_no t1
        rw [z1, z2, z3, z4]
        exact t2
      · obtain ⟨z1, z2, z3, z4⟩ := d_so t1
        rw [z1, z2, z3, z4]
        exact t3
  refine ma_run0 po_Arc_decode rfl rfl [5] 60 ?_
  simp only [pa_Arc_decode, ma_go, ev_A, ev_B, ev_C, ev_D, Nat.reduceAdd, List.mem_cons, List.not_mem_nil, or_false, or_true, true_or, false_or, or_self, Nat.reduceEqDiff, reduceCtorEq, ↓reduceIte, List.length_cons, List.length_nil, Nat.reduceLT, Nat.reduceLeDiff, Nat.le_refl, implies_true, true_and, and_true, Option.toList, List.cons_append, List.nil_append]
  refine ma_callD mt_Arc_isSize rfl rfl (Nat.le_of_ble_eq_true rfl) (Nat.le_refl _) (Nat.le_refl _) (m_isSize l g x GS (nI n)) ?_
  simp only [pa_Arc_decode, ma_go, ev_A, ev_B, ev_C, ev_D, Nat.reduceAdd, List.mem_cons, List.not_mem_nil, or_false, or_true, true_or, false_or, or_self, Nat.reduceEqDiff, reduceCtorEq, ↓reduceIte, List.length_cons, List.length_nil, Nat.reduceLT, Nat.reduceLeDiff, Nat.le_refl, implies_true, true_and, and_true, Option.toList, List.cons_append, List.nil_append]
  rw [show decide (nI 1 ≤ nI n ∧ nI n ≤ nI 160) = true from decide_eq_true ⟨nI_le (by omega) (by omega), nI_le (by omega) (by omega)⟩]
  refine ⟨fun _ => ?_, fun q => absurd q (by decide +kernel)⟩
  refine ma_run0 po_Arc_decode rfl rfl [11] 60 ?_
  simp only [pa_Arc_decode, ma_go, ev_A, ev_B, ev_C, ev_D, Nat.reduceAdd, List.mem_cons, List.not_mem_nil, or_false, or_true, true_or, false_or, or_self, Nat.reduceEqDiff, reduceCtorEq, ↓reduceIte, List.length_cons, List.length_nil, Nat.reduceLT, Nat.reduceLeDiff, Nat.le_refl, implies_true, true_and, and_true, Option.toList, List.cons_append, List.nil_append, gs_2, gs_175, pt_Arc hp]
  refine ma_callP mt_Dec_begin rfl rfl (Nat.le_of_ble_eq_true rfl) (Nat.le_refl _) (Nat.le_refl _) (m_begin l g x hp) ?_
  intro v S' H hpost
  obtain ⟨rfl, rfl, o2, a1, a2, a3, a4⟩ := hpost
  simp only [pa_Arc_decode, ma_go, ev_A, ev_B, ev_C, ev_D, Nat.reduceAdd, List.mem_cons, List.not_mem_nil, or_false, or_true, true_or, false_or, or_self, Nat.reduceEqDiff, reduceCtorEq, ↓reduceIte, List.length_cons, List.length_nil, Nat.reduceLT, Nat.reduceLeDiff, Nat.le_refl, implies_true, true_and, and_true, Option.toList, List.cons_append, List.nil_append]
  exact loop1 R 0 H (by omega) (on_mo o2 (by simp)) ⟨w0, hw, bd_on o2 (by decide) (by decide) hb⟩ ⟨a1, a2, a3, a4, ar_on o2 (by decide) ho⟩
end
