/-! the class's Body.spell, appendCopies, spellStrand -/
theorem ar_onr {h h' : ma_H} {L : List Nat} (ho : onr h h' L) {a n : Nat} {f : Nat → Nat} (ha : a ∉ L) (hr : ar h a n f) : ar h' a n f := fun i hi => by rw [ho.2.1 a ha]; exact hr i hi
theorem bd_onr {h h' : ma_H} {L : List Nat} (ho : onr h h' L) {a : Nat} {w : Nat → Nat} (h1 : a ∉ L) (h2 : a + 1 ∉ L) (hb : bd h a w) : bd h' a w := ⟨ar_onr ho h2 hb.1, by rw [ho.2.1 a h1]; exact hb.2.1, by rw [ho.2.1 a h1]; exact hb.2.2⟩
theorem rz_onr {h h' : ma_H} {L : List Nat} (ho : onr h h' L) {a n : Nat} {f : Nat → Nat} (ha : a ∉ L) (hr : rz h a n f) : rz h' a n f := by
  unfold rz
  rw [ho.2.1 a ha, ho.2.2 a ha]
  exact hr
section
variable (l : Launch) (g : ma_G) (x : Bool) {h : ma_H} {a : Nat} {w : Nat → Nat}
theorem m_spell (hp : pt_ok h) (hw : wf w) (ha : bc a) (hb : bd h a w) {G val : Nat} (hG : G < 3) (hv : val < 65536) {v : Nat → Nat} (ev : v G = val) (hs : ∀ k, k < 11 * G → w k = spw v k) : ma_PM l g x me_Bod_spell [.ref a, .int (nI G), .int (nI val)] GS h (fun r S' h' => r = none ∧ S' = GS ∧ on h h' [a, a + 1] ∧ ∃ w', wf w' ∧ bd h' a w' ∧ ∀ k, k < 11 * G + 11 → w' k = spw v k) := by
  refine ma_PM_of (P := pr_Bod_spell) (by decide) rfl (Nat.le_of_ble_eq_true rfl) ?_
  show ma_J l g x none me_Bod_spell pr_Bod_spell _ 0 [some (.ref a), some (.int (nI G)), some (.int (nI val)), none, none, none, none] [] 0 0 GS h
  generalize hQ : (fun (r : Option Value) (S' : ma_S) (h' : ma_H) => r = none ∧ S' = GS ∧ on h h' [a, a + 1] ∧ ∃ w', wf w' ∧ bd h' a w' ∧ ∀ k, k < 11 * G + 11 → w' k = spw v k) = Q
  have n3 : ¬ nI 3 = 0 := nx_ne0 (by decide) (by decide)
  have loop : ∀ m j w' H, j + m = 11 → on h H [a, a + 1] → wf w' → bd H a w' → (∀ k, k < 11 * G + j → w' k = spw v k) → ma_J l g x none me_Bod_spell pr_Bod_spell Q 8 [some (.ref a), some (.int (nI G)), some (.int (nI val)), some (.int (nI (59049 / 3 ^ j))), some (.int (nI (11 * G))), some (.int (nI (11 * G + j))), none] [] 0 0 GS H := by
    intro m
    induction m with
    | zero =>
      intro j w' H hj oH hw' hb' he
      have e : j = 11 := by omega
      subst e
      refine ma_run0 po_Bod_spell rfl rfl [8, 13] 80 ?_
      simp only [pa_Bod_spell, ma_go, ev_A, ev_B, ev_C, ev_D, Nat.reduceAdd, List.mem_cons, List.not_mem_nil, or_false, or_true, true_or, false_or, or_self, Nat.reduceEqDiff, reduceCtorEq, ↓reduceIte, List.length_cons, List.length_nil, Nat.reduceLT, Nat.reduceLeDiff, Nat.le_refl, implies_true, true_and, and_true, Option.toList, List.cons_append, List.nil_append]
      rw [nI_add]
      refine ⟨fun _ => ?_, fun q => absurd (nI_le (Nat.le_refl _) (by omega)) q⟩
      rw [← hQ]
      exact ⟨rfl, rfl, oH, w', hw', hb', he⟩
    | succ m ih =>
      intro j w' H hj oH hw' hb' he
      have hpH := on_pt oH hp
      have p1 := p3_pos j (by omega)
      have p2 := p3_le j (by omega)
      have i33 : 11 * G + j < 33 := by omega
      have hd : spd v (11 * G + j) = val / (59049 / 3 ^ j) % 3 := by
        unfold spd
        rw [show (11 * G + j) / 11 = G by omega, show (11 * G + j) % 11 = j by omega, ev]
      have ha1 : ah w' (11 * G + j) = ah (spw v) (11 * G + j) := by
        unfold ah
        by_cases z : 11 * G + j = 0
        · rw [if_pos z, if_pos z]
        · rw [if_neg z, if_neg z, he _ (by omega)]
      have ha4 := ah_le hw' i33
      have d3 : val / (59049 / 3 ^ j) % 3 < 3 := Nat.mod_lt _ (by decide)
      have hq : val / (59049 / 3 ^ j) < 65536 := Nat.lt_of_le_of_lt (Nat.div_le_self _ _) hv
      have np : ¬ nI (59049 / 3 ^ j) = 0 := nx_ne0 p1 (by omega)
      have nxt : ∀ c t H2, c = spw v (11 * G + j) → on H H2 [a, a + 1] → bd H2 a (up w' (11 * G + j) c) → ma_J l g x none me_Bod_spell pr_Bod_spell Q 8 [some (.ref a), some (.int (nI G)), some (.int (nI val)), some (.int (nI (59049 / 3 ^ (j + 1)))), some (.int (nI (11 * G))), some (.int (nI (11 * G + j + 1))), some (.int t)] [] 0 0 GS H2 := by
        intro c t H2 hc o2 b2
        refine ma_J.less (ih (j + 1) (up w' (11 * G + j) c) H2 (by omega) (on_tr oH o2) (up_wf hw' (by rw [hc]; exact spw_lt _ _)) b2 (fun k hk => ?_)) ⟨rfl, rfl, rfl, rfl, rfl, rfl, trivial⟩
        unfold up
        by_cases z : k = 11 * G + j
        · rw [if_pos z, z, hc]
        · rw [if_neg z]; exact he k (by omega)
      refine ma_run0 po_Bod_spell rfl rfl [8] 80 ?_
      simp only [pa_Bod_spell, ma_go, ev_A, ev_B, ev_C, ev_D, Nat.reduceAdd, List.mem_cons, List.not_mem_nil, or_false, or_true, true_or, false_or, or_self, Nat.reduceEqDiff, reduceCtorEq, ↓reduceIte, List.length_cons, List.length_nil, Nat.reduceLT, Nat.reduceLeDiff, Nat.le_refl, implies_true, true_and, and_true, Option.toList, List.cons_append, List.nil_append, bc_1 ha]
      rw [nI_add, pk_div (by omega) p1 (by omega), ma_irem_nI (by omega) (by omega) (by omega)]
      refine ⟨fun q => absurd q (nI_ge (by omega) (by omega)), fun _ => ⟨np, n3, ?_⟩⟩
      refine ma_callD mt_Bod_ahead rfl rfl (Nat.le_of_ble_eq_true rfl) (Nat.le_refl _) (Nat.le_refl _) (m_ahead l g x hpH ha hb'.1 i33) ?_
      simp only [pa_Bod_spell, ma_go, ev_A, ev_B, ev_C, ev_D, Nat.reduceAdd, List.mem_cons, List.not_mem_nil, or_false, or_true, true_or, false_or, or_self, Nat.reduceEqDiff, reduceCtorEq, ↓reduceIte, List.length_cons, List.length_nil, Nat.reduceLT, Nat.reduceLeDiff, Nat.le_refl, implies_true, true_and, and_true, Option.toList, List.cons_append, List.nil_append, bc_1 ha]
      refine ⟨fun q => ?_, fun q => ?_⟩
      · have q1 := (nI_leI (by omega) (by omega)).mp q
        rw [nx_1]
        refine ma_callP mt_Bod_put rfl rfl (Nat.le_of_ble_eq_true rfl) (Nat.le_refl _) (Nat.le_refl _) (m_put l g x hpH hw' ha hb' i33 (c := val / (59049 / 3 ^ j) % 3 + 1) (by omega)) ?_
        intro r S' H2 hpost
        obtain ⟨rfl, rfl, o2, b2⟩ := hpost
        simp only [pa_Bod_spell, ma_go, ev_A, ev_B, ev_C, ev_D, Nat.reduceAdd, List.mem_cons, List.not_mem_nil, or_false, or_true, true_or, false_or, or_self, Nat.reduceEqDiff, reduceCtorEq, ↓reduceIte, List.length_cons, List.length_nil, Nat.reduceLT, Nat.reduceLeDiff, Nat.le_refl, implies_true, true_and, and_true, Option.toList, List.cons_append, List.nil_append]
        rw [pk_div (by omega) (by omega) (by omega), p3_st, nx_1]
        refine ⟨n3, nxt _ _ H2 ?_ o2 b2⟩
        rw [spw_e, ← ha1, hd]
        exact (if_neg (by omega)).symm
      · have q1 : val / (59049 / 3 ^ j) % 3 < ah w' (11 * G + j) := Nat.lt_of_not_le (fun z => q (nI_le z (by omega)))
        refine ma_callP mt_Bod_put rfl rfl (Nat.le_of_ble_eq_true rfl) (Nat.le_refl _) (Nat.le_refl _) (m_put l g x hpH hw' ha hb' i33 (c := val / (59049 / 3 ^ j) % 3) (by omega)) ?_
        intro r S' H2 hpost
        obtain ⟨rfl, rfl, o2, b2⟩ := hpost
        simp only [pa_Bod_spell, ma_go, ev_A, ev_B, ev_C, ev_D, Nat.reduceAdd, List.mem_cons, List.not_mem_nil, or_false, or_true, true_or, false_or, or_self, Nat.reduceEqDiff, reduceCtorEq, ↓reduceIte, List.length_cons, List.length_nil, Nat.reduceLT, Nat.reduceLeDiff, Nat.le_refl, implies_true, true_and, and_true, Option.toList, List.cons_append, List.nil_append]
        rw [pk_div (by omega) (by omega) (by omega), p3_st, nx_1]
        refine ⟨n3, nxt _ _ H2 ?_ o2 b2⟩
        rw [spw_e, ← ha1, hd]
        exact (if_pos q1).symm
  refine ma_run0 po_Bod_spell rfl rfl [8] 80 ?_
  simp only [pa_Bod_spell, ma_go, ev_A, ev_B, ev_C, ev_D, Nat.reduceAdd, List.mem_cons, List.not_mem_nil, or_false, or_true, true_or, false_or, or_self, Nat.reduceEqDiff, reduceCtorEq, ↓reduceIte, List.length_cons, List.length_nil, Nat.reduceLT, Nat.reduceLeDiff, Nat.le_refl, implies_true, true_and, and_true, Option.toList, List.cons_append, List.nil_append]
  rw [Int32.mul_comm, pk_mul]
  exact loop 11 0 w h (by omega) (on_rf h _) hw hb hs
theorem m_appendCopies (ha : isr a) {n c : Nat} {f : Nat → Nat} (hr : rz h a n f) (hn : n + 3 ≤ 60) (hc : c < 4) : ma_PM l g x me_Arc_appendCopies [.ref a, .int (nI c)] GS h (fun v S' h' => v = none ∧ S' = GS ∧ onr h h' [a] ∧ rz h' a (n + 3) (fun k => if k < n then f k else c)) := by
  refine ma_PM_of (P := pr_Arc_appendCopies) (by decide) rfl (Nat.le_of_ble_eq_true rfl) ?_
  show ma_J l g x none me_Arc_appendCopies pr_Arc_appendCopies _ 0 [some (.ref a), some (.int (nI c)), none] [] 0 0 GS h
  have loop : ∀ m d H, d + m = 3 → onr h H [a] → rz H a (n + d) (fun k => if k < n then f k else c) → ma_J l g x none me_Arc_appendCopies pr_Arc_appendCopies (fun v S' h' => v = none ∧ S' = GS ∧ onr h h' [a] ∧ rz h' a (n + 3) (fun k => if k < n then f k else c)) 2 [some (.ref a), some (.int (nI c)), some (.int (nI d))] [] 0 0 GS H := by
    intro m
    induction m with
    | zero =>
      intro d H hd ho hz
      have e : d = 3 := by omega
      subst e
      refine ma_run0 po_Arc_appendCopies rfl rfl [2, 5] 60 ?_
      simp only [pa_Arc_appendCopies, ma_go, ev_A, ev_B, ev_C, ev_D, Nat.reduceAdd, List.mem_cons, List.not_mem_nil, or_false, or_true, true_or, false_or, or_self, Nat.reduceEqDiff, reduceCtorEq, ↓reduceIte, List.length_cons, List.length_nil, Nat.reduceLT, Nat.reduceLeDiff, Nat.le_refl, implies_true, true_and, and_true, Option.toList, List.cons_append, List.nil_append]
      exact ⟨fun _ => ⟨ho, hz⟩, fun q => absurd (nI_le (Nat.le_refl _) (by omega)) q⟩
    | succ m ih =>
      intro d H hd ho hz
      refine ma_run0 po_Arc_appendCopies rfl rfl [2] 60 ?_
      simp only [pa_Arc_appendCopies, ma_go, ev_A, ev_B, ev_C, ev_D, Nat.reduceAdd, List.mem_cons, List.not_mem_nil, or_false, or_true, true_or, false_or, or_self, Nat.reduceEqDiff, reduceCtorEq, ↓reduceIte, List.length_cons, List.length_nil, Nat.reduceLT, Nat.reduceLeDiff, Nat.le_refl, implies_true, true_and, and_true, Option.toList, List.cons_append, List.nil_append, gs_row ha]
      refine ⟨fun q => absurd q (nI_ge (by omega) (by omega)), fun _ => ?_⟩
      refine ma_callP mt_Row_append rfl rfl (Nat.le_of_ble_eq_true rfl) (Nat.le_refl _) (Nat.le_refl _) (m_append l g x ha hz (by omega) hc) ?_
      intro v S' h2 hpost
      obtain ⟨rfl, rfl, o2, z2⟩ := hpost
      simp only [pa_Arc_appendCopies, ma_go, ev_A, ev_B, ev_C, ev_D, Nat.reduceAdd, List.mem_cons, List.not_mem_nil, or_false, or_true, true_or, false_or, or_self, Nat.reduceEqDiff, reduceCtorEq, ↓reduceIte, List.length_cons, List.length_nil, Nat.reduceLT, Nat.reduceLeDiff, Nat.le_refl, implies_true, true_and, and_true, Option.toList, List.cons_append, List.nil_append]
      rw [nx_1]
      refine ih (d + 1) h2 (by omega) (onr_tr ho o2) (rz_congr (fun q hq => ?_) z2)
      unfold up
      by_cases e : q = n + d
      · rw [if_pos e, if_neg (by omega)]
      · rw [if_neg e]
  refine ma_run0 po_Arc_appendCopies rfl rfl [2] 60 ?_
  simp only [pa_Arc_appendCopies, ma_go, ev_A, ev_B, ev_C, ev_D, Nat.reduceAdd, List.mem_cons, List.not_mem_nil, or_false, or_true, true_or, false_or, or_self, Nat.reduceEqDiff, reduceCtorEq, ↓reduceIte, List.length_cons, List.length_nil, Nat.reduceLT, Nat.reduceLeDiff, Nat.le_refl, implies_true, true_and, and_true, Option.toList, List.cons_append, List.nil_append]
  exact loop 3 0 h (by omega) (onr_rf h _) (rz_congr (fun q hq => (if_pos (by omega)).symm) hr)
end
