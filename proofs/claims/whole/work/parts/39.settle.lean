/-! the class's Decoding.settleSlots, loseBlock; Integer.bitCount -/
def gn (cl : Nat → Nat) (b : Nat) : Nat → Bool := fun s => !(cl (16 * b + s) == 1)
def dp (cl : Nat → Nat) (b : Nat) : Nat → Nat := fun s => if 1 < cl (16 * b + s) then cl (16 * b + s) else 0
section
variable (l : Launch) (g : ma_G) (x : Bool) {h : ma_H}
theorem m_settleSlots (hp : pt_ok h) {n fx dr b : Nat} {cl sd : Nat → Nat} (hb : b < 4) (hc : ∀ k, k < 64 → cl k < 1000) (hd : dst h n cl sd fx dr) : ma_PM l g x me_Dec_settleSlots [.ref 175, .int (nI b)] GS h (fun v S' h' => v = none ∧ S' = GS ∧ on h h' [175, 182] ∧ h'.1 182 b = nI (gf_cn 16 (gn cl b)) ∧ (∀ k, k ≠ b → h'.1 182 k = h.1 182 k) ∧ dst h' n cl sd fx (dr + sm 16 (dp cl b))) := by
  refine ma_PM_of (P := pr_Dec_settleSlots) (by decide) rfl (Nat.le_of_ble_eq_true rfl) ?_
  show ma_J l g x none me_Dec_settleSlots pr_Dec_settleSlots _ 0 [some (.ref 175), some (.int (nI b)), none, none] [] 0 0 GS h
  generalize hQ : (fun (v : Option Value) (S' : ma_S) (h' : ma_H) => v = none ∧ S' = GS ∧ on h h' [175, 182] ∧ h'.1 182 b = nI (gf_cn 16 (gn cl b)) ∧ (∀ k, k ≠ b → h'.1 182 k = h.1 182 k) ∧ dst h' n cl sd fx (dr + sm 16 (dp cl b))) = Q
  have put7 : ∀ H v d, dst H n cl sd fx d → ∀ e, v = nI e → dst (ma_uI H 175 7 v) n cl sd fx e := by
    intro H v d ⟨d1, d2, d3, d4, d5⟩ e hv
    have o : on H (ma_uI H 175 7 v) [175] := on_uI (on_rf H _) _ _ (by simp)
    exact ⟨by rw [uI_ne (by omega)]; exact d1, by rw [uI_ne (by omega)]; exact d2, by rw [uI_same]; exact hv, ar_on o (by decide) d4, ar_on o (by decide) d5⟩
  have put8 : ∀ H k v d, dst H n cl sd fx d → dst (ma_uI H 182 k v) n cl sd fx d := by
    intro H k v d ⟨d1, d2, d3, d4, d5⟩
    have o : on H (ma_uI H 182 k v) [182] := on_uI (on_rf H _) _ _ (by simp)
    exact ⟨by rw [o.2 175 (by decide)]; exact d1, by rw [o.2 175 (by decide)]; exact d2, by rw [o.2 175 (by decide)]; exact d3, ar_on o (by decide) d4, ar_on o (by decide) d5⟩
  have loop : ∀ m s H, s + m = 16 → on h H [175, 182] → H.1 182 b = nI (gf_cn s (gn cl b)) → (∀ k, k ≠ b → H.1 182 k = h.1 182 k) → dst H n cl sd fx (dr + sm s (dp cl b)) → ma_J l g x none me_Dec_settleSlots pr_Dec_settleSlots Q 7 [some (.ref 175), some (.int (nI b)), some (.int (nI s)), none] [] 0 0 GS H := by
    intro m
    induction m with
    | zero =>
      intro s H hs ho h1 h2 h3
      have e : s = 16 := by omega
      subst e
      refine ma_run0 po_Dec_settleSlots rfl rfl [7, 32] 80 ?_
      simp only [pa_Dec_settleSlots, ma_go, ev_A, ev_B, ev_C, ev_D, Nat.reduceAdd, List.mem_cons, List.not_mem_nil, or_false, or_true, true_or, false_or, or_self, Nat.reduceEqDiff, reduceCtorEq, ↓reduceIte, List.length_cons, List.length_nil, Nat.reduceLT, Nat.reduceLeDiff, Nat.le_refl, implies_true, true_and, and_true, Option.toList, List.cons_append, List.nil_append, gs_175, pt_Dec (on_pt ho hp)]
      refine ⟨fun _ => ?_, fun q => absurd (nI_le (Nat.le_refl _) (by omega)) q⟩
      rw [← hQ]
      exact ⟨rfl, rfl, ho, h1, h2, h3⟩
    | succ m ih =>
      intro s H hs ho h1 h2 h3
      have hcs := hc (16 * b + s) (by omega)
      have hv := h3.2.2.2.1 (16 * b + s) (by omega)
      have st : ∀ H2, on h H2 [175, 182] → H2.1 182 b = nI (gf_cn (s + 1) (gn cl b)) → (∀ k, k ≠ b → H2.1 182 k = h.1 182 k) → dst H2 n cl sd fx (dr + sm s (dp cl b)) → ma_J l g x none me_Dec_settleSlots pr_Dec_settleSlots Q 32 [some (.ref 175), some (.int (nI b)), some (.int (nI s)), some (.int (nI (cl (16 * b + s))))] [] 0 0 GS H2 := by
        intro H2 o2 a1 a2 a3
        refine ma_run0 po_Dec_settleSlots rfl rfl [7] 80 ?_
        simp only [pa_Dec_settleSlots, ma_go, ev_A, ev_B, ev_C, ev_D, Nat.reduceAdd, List.mem_cons, List.not_mem_nil, or_false, or_true, true_or, false_or, or_self, Nat.reduceEqDiff, reduceCtorEq, ↓reduceIte, List.length_cons, List.length_nil, Nat.reduceLT, Nat.reduceLeDiff, Nat.le_refl, implies_true, true_and, and_true, Option.toList, List.cons_append, List.nil_append, gs_175, a3.2.2.1]
        simp only [nI_add]
        have go : ∀ e, e = dp cl b s → ma_J l g x none me_Dec_settleSlots pr_Dec_settleSlots Q 7 [some (.ref 175), some (.int (nI b)), some (.int (nI (s + 1))), some (.int (nI (cl (16 * b + s))))] [] 0 0 GS (ma_uI H2 175 7 (nI (dr + sm s (dp cl b) + e))) := fun e he => by
          refine ma_J.less (ih (s + 1) _ (by omega) (on_uI o2 _ _ (by simp)) (by rw [uI_ne (by omega)]; exact a1) (fun k hk => by rw [uI_ne (by omega)]; exact a2 k hk) (put7 _ _ _ a3 _ ?_)) ⟨rfl, rfl, rfl, trivial⟩
          rw [he, Nat.add_assoc]
          rfl
        refine ⟨fun q => go 0 ?_, fun q => go _ ?_⟩
        · have := (nI_leI (by omega) (by omega)).mp q
          exact (if_neg (by omega)).symm
        · exact (if_pos (Nat.lt_of_not_le (fun z => q (nI_le z (by omega))))).symm
      refine ma_run0 po_Dec_settleSlots rfl rfl [7, 32] 80 ?_
      simp only [pa_Dec_settleSlots, ma_go, ev_A, ev_B, ev_C, ev_D, Nat.reduceAdd, List.mem_cons, List.not_mem_nil, or_false, or_true, true_or, false_or, or_self, Nat.reduceEqDiff, reduceCtorEq, ↓reduceIte, List.length_cons, List.length_nil, Nat.reduceLT, Nat.reduceLeDiff, Nat.le_refl, implies_true, true_and, and_true, Option.toList, List.cons_append, List.nil_append, gs_175, pt_Dec (on_pt ho hp)]
      rw [Int32.mul_comm (nI b), pk_mul, nI_add, nI_clamp (n := 16 * b + s) (by omega), hv, nI_clamp (n := b) (by omega), h1]
      simp only [nI_add]
      have go2 : ∀ e, gf_cn s (gn cl b) + e = gf_cn (s + 1) (gn cl b) → ma_J l g x none me_Dec_settleSlots pr_Dec_settleSlots Q 32 [some (.ref 175), some (.int (nI b)), some (.int (nI s)), some (.int (nI (cl (16 * b + s))))] [] 0 0 GS (ma_uI H 182 b (nI (gf_cn s (gn cl b) + e))) := fun e he => by
        rw [he]
        exact st _ (on_uI ho _ _ (by simp)) (uI_same _ _ _ _) (fun k hk => by rw [uI_ne (by omega)]; exact h2 k hk) (put8 _ _ _ _ h3)
      have t1 := ma_in_of (i := 16 * b + s) gs_179 (by omega) (by decide)
      have t2 := ma_in_of (i := b) gs_182 hb (by decide)
      have eg : gf_cn (s + 1) (gn cl b) = gf_cn s (gn cl b) + zb (gn cl b s) := rfl
      refine ⟨fun q => absurd q (nI_ge (by omega) (by omega)), fun _ => ⟨t1, t2, fun q => ⟨t2, go2 1 ?_⟩, fun q => ⟨t2, go2 0 ?_⟩⟩⟩
      · rw [eg, show gn cl b s = true by unfold gn; rw [show (cl (16 * b + s) == 1) = false from beq_eq_false_iff_ne.mpr (fun z => q (by rw [z]))]; rfl]
        rfl
      · rw [eg, show gn cl b s = false by unfold gn; rw [(nI_eq (by omega) (by omega)).mp q]; rfl]
        rfl
  refine ma_run0 po_Dec_settleSlots rfl rfl [7] 80 ?_
  simp only [pa_Dec_settleSlots, ma_go, ev_A, ev_B, ev_C, ev_D, Nat.reduceAdd, List.mem_cons, List.not_mem_nil, or_false, or_true, true_or, false_or, or_self, Nat.reduceEqDiff, reduceCtorEq, ↓reduceIte, List.length_cons, List.length_nil, Nat.reduceLT, Nat.reduceLeDiff, Nat.le_refl, implies_true, true_and, and_true, Option.toList, List.cons_append, List.nil_append, gs_175, pt_Dec hp]
  rw [nI_clamp (n := b) (by omega)]
  exact ⟨ma_in_of gs_182 hb (by decide), loop 16 0 _ (by omega) (on_uI (on_rf h _) _ _ (by simp)) (uI_same _ _ _ _) (fun k hk => uI_ne (by omega)) (put8 _ _ _ _ hd)⟩
theorem m_loseBlock (hp : pt_ok h) {b : Nat} (hb : b < 4) : ma_PM l g x me_Dec_loseBlock [.ref 175, .int (nI b)] GS h (fun v S' h' => v = none ∧ S' = GS ∧ on h h' [181, 183] ∧ h'.1 183 b = -1 ∧ (∀ k, k ≠ b → h'.1 183 k = h.1 183 k) ∧ ∀ k, h'.1 181 k = if 40 * b ≤ k ∧ k < 40 * b + 40 then nI 0 else h.1 181 k) := by
  refine ma_PM_of (P := pr_Dec_loseBlock) (by decide) rfl (Nat.le_of_ble_eq_true rfl) ?_
  show ma_J l g x none me_Dec_loseBlock pr_Dec_loseBlock _ 0 [some (.ref 175), some (.int (nI b)), none] [] 0 0 GS h
  generalize hQ : (fun (v : Option Value) (S' : ma_S) (h' : ma_H) => v = none ∧ S' = GS ∧ on h h' [181, 183] ∧ h'.1 183 b = -1 ∧ (∀ k, k ≠ b → h'.1 183 k = h.1 183 k) ∧ ∀ k, h'.1 181 k = if 40 * b ≤ k ∧ k < 40 * b + 40 then nI 0 else h.1 181 k) = Q
  have loop : ∀ m s H, s + m = 40 → on h H [181, 183] → H.1 183 b = -1 → (∀ k, k ≠ b → H.1 183 k = h.1 183 k) → (∀ k, H.1 181 k = if 40 * b ≤ k ∧ k < 40 * b + s then nI 0 else h.1 181 k) → ma_J l g x none me_Dec_loseBlock pr_Dec_loseBlock Q 7 [some (.ref 175), some (.int (nI b)), some (.int (nI s))] [] 0 0 GS H := by
    intro m
    induction m with
    | zero =>
      intro s H hs ho h1 h2 h3
      have e : s = 40 := by omega
      subst e
      refine ma_run0 po_Dec_loseBlock rfl rfl [7] 80 ?_
      simp only [pa_Dec_loseBlock, ma_go, ev_A, ev_B, ev_C, ev_D, Nat.reduceAdd, List.mem_cons, List.not_mem_nil, or_false, or_true, true_or, false_or, or_self, Nat.reduceEqDiff, reduceCtorEq, ↓reduceIte, List.length_cons, List.length_nil, Nat.reduceLT, Nat.reduceLeDiff, Nat.le_refl, implies_true, true_and, and_true, Option.toList, List.cons_append, List.nil_append, gs_175, pt_Dec (on_pt ho hp)]
      refine ⟨fun _ => ?_, fun q => absurd (nI_le (Nat.le_refl _) (by omega)) q⟩
      rw [← hQ]
      exact ⟨rfl, rfl, ho, h1, h2, h3⟩
    | succ m ih =>
      intro s H hs ho h1 h2 h3
      refine ma_run0 po_Dec_loseBlock rfl rfl [7] 80 ?_
      simp only [pa_Dec_loseBlock, ma_go, ev_A, ev_B, ev_C, ev_D, Nat.reduceAdd, List.mem_cons, List.not_mem_nil, or_false, or_true, true_or, false_or, or_self, Nat.reduceEqDiff, reduceCtorEq, ↓reduceIte, List.length_cons, List.length_nil, Nat.reduceLT, Nat.reduceLeDiff, Nat.le_refl, implies_true, true_and, and_true, Option.toList, List.cons_append, List.nil_append, gs_175, pt_Dec (on_pt ho hp)]
      rw [Int32.mul_comm (nI b), pk_mul, nI_add, nI_clamp (n := 40 * b + s) (by omega), nx_1]
      refine ⟨fun q => absurd q (nI_ge (by omega) (by omega)), fun _ => ⟨ma_in_of gs_181 (by omega) (by decide), ?_⟩⟩
      refine ih (s + 1) _ (by omega) (on_uI ho _ _ (by simp)) (by rw [uI_ne (by omega)]; exact h1) (fun k hk => by rw [uI_ne (by omega)]; exact h2 k hk) (fun k => ?_)
      by_cases e : k = 40 * b + s
      · rw [e, uI_same, if_pos (by omega)]
      · rw [uI_ne (by omega), h3 k]
        by_cases c : 40 * b ≤ k ∧ k < 40 * b + s
        · rw [if_pos c, if_pos (by omega)]
        · rw [if_neg c, if_neg (by omega)]
  refine ma_run0 po_Dec_loseBlock rfl rfl [7] 80 ?_
  simp only [pa_Dec_loseBlock, ma_go, ev_A, ev_B, ev_C, ev_D, Nat.reduceAdd, List.mem_cons, List.not_mem_nil, or_false, or_true, true_or, false_or, or_self, Nat.reduceEqDiff, reduceCtorEq, ↓reduceIte, List.length_cons, List.length_nil, Nat.reduceLT, Nat.reduceLeDiff, Nat.le_refl, implies_true, true_and, and_true, Option.toList, List.cons_append, List.nil_append, gs_175, pt_Dec hp]
  rw [nI_clamp (n := b) (by omega)]
  exact ⟨ma_in_of gs_183 hb (by decide), loop 40 0 _ (by omega) (on_uI (on_rf h _) _ _ (by simp)) (uI_same _ _ _ _) (fun k hk => uI_ne (by omega)) (fun k => by rw [uI_ne (by omega), if_neg (by omega)])⟩
end
