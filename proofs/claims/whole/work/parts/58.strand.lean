/-! the class's spellStrand -/
theorem pt_4 {h : ma_H} (hp : pt_ok h) {k : Nat} (hk : k < 64) : h.2.2 4 k = 5 + k := (hp 4 k (by decide) (by decide)).trans (if_pos hk)
theorem stl_cat {w : Nat → Nat} (k : Nat) : (if k < 42 then (if k < 39 then (if k < 36 then (if k < 33 then w k else sm 33 w % 4) else sm 33 (ri w) % 33 / 16) else sm 33 (ri w) % 33 / 4 % 4) else sm 33 (ri w) % 33 % 4) = stl w k := by
  unfold stl
  by_cases h1 : k < 33
  · have a : k < 36 := by omega
    have b : k < 39 := by omega
    have c : k < 42 := by omega
    simp [h1, a, b, c]
  · by_cases h2 : k < 36
    · have b : k < 39 := by omega
      have c : k < 42 := by omega
      simp [h1, h2, b, c]
    · by_cases h3 : k < 39
      · have c : k < 42 := by omega
        simp [h1, h2, h3, c]
      · by_cases h4 : k < 42
        · simp [h1, h2, h3, h4]
        · simp [h1, h2, h3, h4]
set_option maxRecDepth 30000 in
theorem m_spellStrand (l : Launch) (g : ma_G) (x : Bool) {h : ma_H} (hp : pt_ok h) {b s : Nat} (hb : b < 4) (hs : s < 16) {c : Nat → Nat} (hc : ∀ k, k < 64 → c k < 256) (h1 : ar h 172 64 c) {w0 : Nat → Nat} (hw0 : wf w0) (hbd : bd h 173 w0) : ma_PM l g x me_Arc_spellStrand [.ref 2, .int (nI b), .int (nI s)] GS h (fun v S' h' => v = none ∧ S' = GS ∧ onr h h' [173, 174, 5 + (16 * b + s)] ∧ (∃ w', wf w' ∧ bd h' 173 w') ∧ rz h' (5 + (16 * b + s)) 45 (stl (spw (VV b s c)))) := by
  refine ma_PM_of (P := pr_Arc_spellStrand) (by decide) rfl (Nat.le_of_ble_eq_true rfl) ?_
  show ma_J l g x none me_Arc_spellStrand pr_Arc_spellStrand _ 0 [some (.ref 2), some (.int (nI b)), some (.int (nI s)), none, none, none] [] 0 0 GS h
  generalize hQ : (fun (v : Option Value) (S' : ma_S) (h' : ma_H) => v = none ∧ S' = GS ∧ onr h h' [173, 174, 5 + (16 * b + s)] ∧ (∃ w', wf w' ∧ bd h' 173 w') ∧ rz h' (5 + (16 * b + s)) 45 (stl (spw (VV b s c)))) = Q
  have bc1 : bc 173 := Or.inl rfl
  have e1 : VV b s c 1 = 256 * c (4 * s) + c (4 * s + 1) := by
    unfold VV
    rw [if_neg (by decide), show 4 * s + 2 * 1 - 2 = 4 * s by omega, show 4 * s + 2 * 1 - 1 = 4 * s + 1 by omega]
  have e2 : VV b s c 2 = 256 * c (4 * s + 2) + c (4 * s + 3) := by
    unfold VV
    rw [if_neg (by decide), show 4 * s + 2 * 2 - 2 = 4 * s + 2 by omega, show 4 * s + 2 * 2 - 1 = 4 * s + 3 by omega]
  have c0 := hc (4 * s) (by omega)
  have c1 := hc (4 * s + 1) (by omega)
  have c2 := hc (4 * s + 2) (by omega)
  have c3 := hc (4 * s + 3) (by omega)
  have t0 := ma_in_of (i := 4 * s) gs_172 (by omega) (by decide)
  have t1 := ma_in_of (i := 4 * s + 1) gs_172 (by omega) (by decide)
  have t2 := ma_in_of (i := 4 * s + 2) gs_172 (by omega) (by decide)
  have t3 := ma_in_of (i := 4 * s + 3) gs_172 (by omega) (by decide)
  have f4 : nI s * nI 4 = nI (4 * s) := by rw [Int32.mul_comm, pk_mul]
  have f16 : nI b * nI 16 + nI s = nI (16 * b + s) := by rw [Int32.mul_comm, pk_mul, nI_add]
  have ha : isr (5 + (16 * b + s)) := Or.inl ⟨by omega, by omega⟩
  have n4 : ¬ nI 4 = 0 := nx_ne0 (by decide) (by decide)
  have n16 : ¬ nI 16 = 0 := nx_ne0 (by decide) (by decide)
  have loop : ∀ w, wf w → (∀ k, k < 33 → w k = spw (VV b s c) k) → ∀ m i H, i + m = 33 → onr h H [173, 174, 5 + (16 * b + s)] → bd H 173 w → rz H (5 + (16 * b + s)) i w → ma_J l g x none me_Arc_spellStrand pr_Arc_spellStrand Q 65 [some (.ref 2), some (.int (nI b)), some (.int (nI s)), some (.int (nI (4 * s))), some (.ref (5 + (16 * b + s))), some (.int (nI i))] [] 0 0 GS H := by
    intro w hw he m
    induction m with
    | zero =>
      intro i H hi oH hb2 hz
      have e : i = 33 := by omega
      subst e
      have hpH := onr_pt oH hp
      have sg := Nat.mod_lt (sm 33 (ri w)) (show 33 > 0 by decide)
      have su := Nat.mod_lt (sm 33 w) (show 4 > 0 by decide)
      refine ma_run0 po_Arc_spellStrand rfl rfl [65, 68] 80 ?_
      simp only [pa_Arc_spellStrand, ma_go, ev_A, ev_B, ev_C, ev_D, Nat.reduceAdd, List.mem_cons, List.not_mem_nil, or_false, or_true, true_or, false_or, or_self, Nat.reduceEqDiff, reduceCtorEq, ↓reduceIte, List.length_cons, List.length_nil, Nat.reduceLT, Nat.reduceLeDiff, Nat.le_refl, implies_true, true_and, and_true, Option.toList, List.cons_append, List.nil_append, gs_2, gs_173, pt_Arc hpH]
      refine ⟨fun _ => ?_, fun q => absurd (nI_le (Nat.le_refl _) (by omega)) q⟩
      refine ma_callD mt_Bod_signature rfl rfl (Nat.le_of_ble_eq_true rfl) (Nat.le_refl _) (Nat.le_refl _) (m_bsig l g x bc1 hb2.2.2) ?_
      simp only [pa_Arc_spellStrand, ma_go, ev_A, ev_B, ev_C, ev_D, Nat.reduceAdd, List.mem_cons, List.not_mem_nil, or_false, or_true, true_or, false_or, or_self, Nat.reduceEqDiff, reduceCtorEq, ↓reduceIte, List.length_cons, List.length_nil, Nat.reduceLT, Nat.reduceLeDiff, Nat.le_refl, implies_true, true_and, and_true, Option.toList, List.cons_append, List.nil_append, gs_2, gs_173, pt_Arc hpH]
      refine ma_callD mt_Bod_sum rfl rfl (Nat.le_of_ble_eq_true rfl) (Nat.le_refl _) (Nat.le_refl _) (m_bsum l g x hw bc1 hb2.2.1) ?_
      simp only [pa_Arc_spellStrand, ma_go, ev_A, ev_B, ev_C, ev_D, Nat.reduceAdd, List.mem_cons, List.not_mem_nil, or_false, or_true, true_or, false_or, or_self, Nat.reduceEqDiff, reduceCtorEq, ↓reduceIte, List.length_cons, List.length_nil, Nat.reduceLT, Nat.reduceLeDiff, Nat.le_refl, implies_true, true_and, and_true, Option.toList, List.cons_append, List.nil_append]
      refine ma_callP mt_Arc_appendCopies rfl rfl (Nat.le_of_ble_eq_true rfl) (Nat.le_refl _) (Nat.le_refl _) (m_appendCopies l g x ha hz (by omega) su) ?_
      intro v S' H1 hpost
      obtain ⟨rfl, rfl, o1, z1⟩ := hpost
      simp only [pa_Arc_spellStrand, ma_go, ev_A, ev_B, ev_C, ev_D, Nat.reduceAdd, List.mem_cons, List.not_mem_nil, or_false, or_true, true_or, false_or, or_self, Nat.reduceEqDiff, reduceCtorEq, ↓reduceIte, List.length_cons, List.length_nil, Nat.reduceLT, Nat.reduceLeDiff, Nat.le_refl, implies_true, true_and, and_true, Option.toList, List.cons_append, List.nil_append]
      rw [pk_div (by omega) (by omega) (by omega)]
      refine ⟨n16, ?_⟩
      refine ma_callP mt_Arc_appendCopies rfl rfl (Nat.le_of_ble_eq_true rfl) (Nat.le_refl _) (Nat.le_refl _) (m_appendCopies l g x ha z1 (by omega) (c := sm 33 (ri w) % 33 / 16) (by omega)) ?_
      intro v S' H2 hpost
      obtain ⟨rfl, rfl, o2, z2⟩ := hpost
      simp only [pa_Arc_spellStrand, ma_go, ev_A, ev_B, ev_C, ev_D, Nat.reduceAdd, List.mem_cons, List.not_mem_nil, or_false, or_true, true_or, false_or, or_self, Nat.reduceEqDiff, reduceCtorEq, ↓reduceIte, List.length_cons, List.length_nil, Nat.reduceLT, Nat.reduceLeDiff, Nat.le_refl, implies_true, true_and, and_true, Option.toList, List.cons_append, List.nil_append]
      rw [pk_div (by omega) (by omega) (by omega), ma_irem_nI (by omega) (by omega) (by omega)]
      refine ⟨n4, n4, ?_⟩
      refine ma_callP mt_Arc_appendCopies rfl rfl (Nat.le_of_ble_eq_true rfl) (Nat.le_refl _) (Nat.le_refl _) (m_appendCopies l g x ha z2 (by omega) (c := sm 33 (ri w) % 33 / 4 % 4) (by omega)) ?_
      intro v S' H3 hpost
      obtain ⟨rfl, rfl, o3, z3⟩ := hpost
      simp only [pa_Arc_spellStrand, ma_go, ev_A, ev_B, ev_C, ev_D, Nat.reduceAdd, List.mem_cons, List.not_mem_nil, or_false, or_true, true_or, false_or, or_self, Nat.reduceEqDiff, reduceCtorEq, ↓reduceIte, List.length_cons, List.length_nil, Nat.reduceLT, Nat.reduceLeDiff, Nat.le_refl, implies_true, true_and, and_true, Option.toList, List.cons_append, List.nil_append]
      rw [ma_irem_nI (by omega) (by omega) (by omega)]
      refine ⟨n4, ?_⟩
      refine ma_callP mt_Arc_appendCopies rfl rfl (Nat.le_of_ble_eq_true rfl) (Nat.le_refl _) (Nat.le_refl _) (m_appendCopies l g x ha z3 (by omega) (c := sm 33 (ri w) % 33 % 4) (by omega)) ?_
      intro v S' H4 hpost
      obtain ⟨rfl, rfl, o4, z4⟩ := hpost
      simp only [pa_Arc_spellStrand, ma_go, ev_A, ev_B, ev_C, ev_D, Nat.reduceAdd, List.mem_cons, List.not_mem_nil, or_false, or_true, true_or, false_or, or_self, Nat.reduceEqDiff, reduceCtorEq, ↓reduceIte, List.length_cons, List.length_nil, Nat.reduceLT, Nat.reduceLeDiff, Nat.le_refl, implies_true, true_and, and_true, Option.toList, List.cons_append, List.nil_append]
      have o5 := onr_tr o1 (onr_tr o2 (onr_tr o3 o4))
      rw [← hQ]
      refine ⟨rfl, rfl, onr_tr oH (onr_mo o5 (by simp)), ⟨w, hw, bd_onr o5 (by simp; omega) (by simp; omega) hb2⟩, rz_congr (fun k hk => ?_) z4⟩
      rw [← stl_congr he k]
      exact stl_cat k
    | succ m ih =>
      intro i H hi oH hb2 hz
      have hpH := onr_pt oH hp
      have v1 : H.1 174 i = nI (w i) := hb2.1 i (by omega)
      refine ma_run0 po_Arc_spellStrand rfl rfl [65, 77] 80 ?_
      simp only [pa_Arc_spellStrand, ma_go, ev_A, ev_B, ev_C, ev_D, Nat.reduceAdd, List.mem_cons, List.not_mem_nil, or_false, or_true, true_or, false_or, or_self, Nat.reduceEqDiff, reduceCtorEq, ↓reduceIte, List.length_cons, List.length_nil, Nat.reduceLT, Nat.reduceLeDiff, Nat.le_refl, implies_true, true_and, and_true, Option.toList, List.cons_append, List.nil_append, gs_2, gs_173, gs_row ha, pt_Arc hpH, pt_Bod hpH]
      rw [nI_clamp (n := i) (by omega), v1]
      refine ⟨fun q => absurd q (nI_ge (by omega) (by omega)), fun _ => ⟨ma_in_of gs_174 (by omega) (by decide), ?_⟩⟩
      refine ma_callP mt_Row_append rfl rfl (Nat.le_of_ble_eq_true rfl) (Nat.le_refl _) (Nat.le_refl _) (m_append l g x ha hz (by omega) (hw i (by omega))) ?_
      intro v S' H2 hpost
      obtain ⟨rfl, rfl, o2, z2⟩ := hpost
      simp only [pa_Arc_spellStrand, ma_go, ev_A, ev_B, ev_C, ev_D, Nat.reduceAdd, List.mem_cons, List.not_mem_nil, or_false, or_true, true_or, false_or, or_self, Nat.reduceEqDiff, reduceCtorEq, ↓reduceIte, List.length_cons, List.length_nil, Nat.reduceLT, Nat.reduceLeDiff, Nat.le_refl, implies_true, true_and, and_true, Option.toList, List.cons_append, List.nil_append]
      rw [nx_1]
      refine ih (i + 1) H2 (by omega) (onr_tr oH (onr_mo o2 (by simp))) (bd_onr o2 (by simp; omega) (by simp; omega) hb2) (rz_congr (fun k hk => ?_) z2)
      unfold up
      by_cases e : k = i
      · rw [if_pos e, e]
      · rw [if_neg e]
  refine ma_run0 po_Arc_spellStrand rfl rfl [65] 120 ?_
  simp only [pa_Arc_spellStrand, ma_go, ev_A, ev_B, ev_C, ev_D, Nat.reduceAdd, List.mem_cons, List.not_mem_nil, or_false, or_true, true_or, false_or, or_self, Nat.reduceEqDiff, reduceCtorEq, ↓reduceIte, List.length_cons, List.length_nil, Nat.reduceLT, Nat.reduceLeDiff, Nat.le_refl, implies_true, true_and, and_true, Option.toList, List.cons_append, List.nil_append, gs_2, gs_173, pt_Arc hp]
  rw [f4, pk_mul, nI_add]
  refine ma_callP mt_Bod_spell rfl rfl (Nat.le_of_ble_eq_true rfl) (Nat.le_refl _) (Nat.le_refl _) (m_spell l g x hp hw0 bc1 hbd (G := 0) (val := 256 * b + s) (by decide) (by omega) (v := VV b s c) rfl (fun k hk => by omega)) ?_
  intro v S' H1 hpost
  obtain ⟨rfl, rfl, o1, w1, hw1, b1, q1⟩ := hpost
  have hp1 := on_pt o1 hp
  have a1 := ar_on o1 (by decide) h1
  simp only [pa_Arc_spellStrand, ma_go, ev_A, ev_B, ev_C, ev_D, Nat.reduceAdd, List.mem_cons, List.not_mem_nil, or_false, or_true, true_or, false_or, or_self, Nat.reduceEqDiff, reduceCtorEq, ↓reduceIte, List.length_cons, List.length_nil, Nat.reduceLT, Nat.reduceLeDiff, Nat.le_refl, implies_true, true_and, and_true, Option.toList, List.cons_append, List.nil_append, gs_2, gs_173, pt_Arc hp1]
  simp only [nI_add]
  rw [nI_clamp (n := 4 * s) (by omega), nI_clamp (n := 4 * s + 1) (by omega), a1 _ (by omega), a1 _ (by omega), pk_mul, nI_add]
  refine ⟨t0, t1, ?_⟩
  refine ma_callP mt_Bod_spell rfl rfl (Nat.le_of_ble_eq_true rfl) (Nat.le_refl _) (Nat.le_refl _) (m_spell l g x hp1 hw1 bc1 b1 (G := 1) (val := 256 * c (4 * s) + c (4 * s + 1)) (by decide) (by omega) (v := VV b s c) e1 q1) ?_
  intro v S' H2 hpost
  obtain ⟨rfl, rfl, o2, w2, hw2, b2, q2⟩ := hpost
  have hp2 := on_pt o2 hp1
  have a2 := ar_on o2 (by decide) a1
  simp only [pa_Arc_spellStrand, ma_go, ev_A, ev_B, ev_C, ev_D, Nat.reduceAdd, List.mem_cons, List.not_mem_nil, or_false, or_true, true_or, false_or, or_self, Nat.reduceEqDiff, reduceCtorEq, ↓reduceIte, List.length_cons, List.length_nil, Nat.reduceLT, Nat.reduceLeDiff, Nat.le_refl, implies_true, true_and, and_true, Option.toList, List.cons_append, List.nil_append, gs_2, gs_173, pt_Arc hp2]
  simp only [nI_add]
  rw [nI_clamp (n := 4 * s + 2) (by omega), nI_clamp (n := 4 * s + 3) (by omega), a2 _ (by omega), a2 _ (by omega), pk_mul, nI_add]
  refine ⟨t2, t3, ?_⟩
  refine ma_callP mt_Bod_spell rfl rfl (Nat.le_of_ble_eq_true rfl) (Nat.le_refl _) (Nat.le_refl _) (m_spell l g x hp2 hw2 bc1 b2 (G := 2) (val := 256 * c (4 * s + 2) + c (4 * s + 3)) (by decide) (by omega) (v := VV b s c) e2 q2) ?_
  intro v S' H3 hpost
  obtain ⟨rfl, rfl, o3, w3, hw3, b3, q3⟩ := hpost
  have hp3 := on_pt o3 hp2
  simp only [pa_Arc_spellStrand, ma_go, ev_A, ev_B, ev_C, ev_D, Nat.reduceAdd, List.mem_cons, List.not_mem_nil, or_false, or_true, true_or, false_or, or_self, Nat.reduceEqDiff, reduceCtorEq, ↓reduceIte, List.length_cons, List.length_nil, Nat.reduceLT, Nat.reduceLeDiff, Nat.le_refl, implies_true, true_and, and_true, Option.toList, List.cons_append, List.nil_append, gs_2, gs_4, pt_Arc hp3]
  rw [f16, nI_clamp (n := 16 * b + s) (by omega), pt_4 hp3 (show 16 * b + s < 64 by omega)]
  refine ⟨ma_in_of gs_4 (by omega) (by decide), ?_⟩
  simp only [pa_Arc_spellStrand, ma_go, ev_A, ev_B, ev_C, ev_D, Nat.reduceAdd, List.mem_cons, List.not_mem_nil, or_false, or_true, true_or, false_or, or_self, Nat.reduceEqDiff, reduceCtorEq, ↓reduceIte, List.length_cons, List.length_nil, Nat.reduceLT, Nat.reduceLeDiff, Nat.le_refl, implies_true, true_and, and_true, Option.toList, List.cons_append, List.nil_append, gs_row ha]
  refine ma_callP mt_Row_become rfl rfl (Nat.le_of_ble_eq_true rfl) (Nat.le_refl _) (Nat.le_refl _) (m_become l g x ha) ?_
  intro v S' H4 hpost
  obtain ⟨rfl, rfl, o4, z1, z2, z3⟩ := hpost
  simp only [pa_Arc_spellStrand, ma_go, ev_A, ev_B, ev_C, ev_D, Nat.reduceAdd, List.mem_cons, List.not_mem_nil, or_false, or_true, true_or, false_or, or_self, Nat.reduceEqDiff, reduceCtorEq, ↓reduceIte, List.length_cons, List.length_nil, Nat.reduceLT, Nat.reduceLeDiff, Nat.le_refl, implies_true, true_and, and_true, Option.toList, List.cons_append, List.nil_append]
  exact loop w3 hw3 q3 33 0 H4 (by omega) (onr_tr (onr_mo (onr_on (on_tr o1 (on_tr o2 o3))) (by simp)) (onr_mo o4 (by simp))) (bd_onr o4 (by simp; omega) (by simp; omega) b3) (rz_0 z3 z1 z2)
