/-! shuffle of both sides -/
theorem uR_e (h : ma_H) (a k v b j : Nat) : (ma_uR h a k v).2.2 b j = if b = a ∧ j = k then v else h.2.2 b j := rfl
theorem lcg_i (v : Nat) : nI v * nI 1103515245 + nI 12345 &&& nI 2147483647 = nI (lcg v) := by
  rw [pk_mul, nI_add, nx_and, show (2147483647 : Nat) = 2 ^ 31 - 1 from rfl, Nat.and_two_pow_sub_one_eq_mod]
  rfl
theorem nx_m1 (k : Nat) : nI (k + 1) + -1 = nI k := by
  rw [show (-1 : Int32) = -(nI 1) by decide +kernel, ← Int32.sub_eq_add_neg, nx_sub]
/-- the reads' rows of H are those of h in the order p, and nothing else has changed -/
def s69 (h H : ma_H) (p : Nat → Nat) : Prop := H.1 = h.1 ∧ H.2.1 = h.2.1 ∧ (∀ a, a ≠ 69 → H.2.2 a = h.2.2 a) ∧ ∀ i, i < 90 → H.2.2 69 i = h.2.2 69 (p i)
theorem s69_pt {h H : ma_H} {p : Nat → Nat} (hs : s69 h H p) (hp : pt_ok h) : pt_ok H := fun a k h1 h2 => by rw [hs.2.2.1 a h1]; exact hp a k h1 h2
section
variable (l : Launch) (g : ma_G) (x : Bool) {h : ma_H}
theorem m_shuffleN {s : Int32} (hs : ¬ nI 0 ≤ s) : ma_PM l g x me_Arc_shuffle [.ref 2, .int s] GS h (fun v S' h' => v = some (.int (nI 0)) ∧ S' = GS ∧ h' = h) := by
  refine ma_PM_of (P := pr_Arc_shuffle) (by decide) rfl (Nat.le_of_ble_eq_true rfl) ?_
  show ma_J l g x none me_Arc_shuffle pr_Arc_shuffle _ 0 [some (.ref 2), some (.int s), none, none, none, none] [] 0 0 GS h
  refine ma_run0 po_Arc_shuffle rfl rfl [4] 60 ?_
  simp only [pa_Arc_shuffle, ma_go, ev_A, ev_B, ev_C, ev_D, Nat.reduceAdd, List.mem_cons, List.not_mem_nil, or_false, or_true, true_or, false_or, or_self, Nat.reduceEqDiff, reduceCtorEq, ↓reduceIte, List.length_cons, List.length_nil, Nat.reduceLT, Nat.reduceLeDiff, Nat.le_refl, implies_true, true_and, and_true, Option.toList, List.cons_append, List.nil_append]
  exact fun q => absurd q hs
theorem m_shuffle (hp : pt_ok h) {R s : Nat} (hR : R ≤ 90) (hs : s < 2 ^ 31) (eR : h.1 2 4 = nI R) (h69 : ∀ k, k < 90 → 70 ≤ h.2.2 69 k ∧ h.2.2 69 k ≤ 159) : ma_PM l g x me_Arc_shuffle [.ref 2, .int (nI s)] GS h (fun v S' h' => v = some (.int (nI 1)) ∧ S' = GS ∧ s69 h h' (sh (R - 1) s (fun i => i))) := by
  refine ma_PM_of (P := pr_Arc_shuffle) (by decide) rfl (Nat.le_of_ble_eq_true rfl) ?_
  show ma_J l g x none me_Arc_shuffle pr_Arc_shuffle _ 0 [some (.ref 2), some (.int (nI s)), none, none, none, none] [] 0 0 GS h
  generalize hQ : (fun (v : Option Value) (S' : ma_S) (h' : ma_H) => v = some (.int (nI 1)) ∧ S' = GS ∧ s69 h h' (sh (R - 1) s (fun i => i))) = Q
  have fin : ∀ H ls, s69 h H (sh (R - 1) s (fun i => i)) → ls.length = 6 → ma_J l g x none me_Arc_shuffle pr_Arc_shuffle Q 50 ls [] 0 0 GS H := by
    intro H ls hH _
    refine ma_run0 po_Arc_shuffle rfl rfl [] 60 ?_
    simp only [pa_Arc_shuffle, ma_go, ev_A, ev_B, ev_C, ev_D, Nat.reduceAdd, List.mem_cons, List.not_mem_nil, or_false, or_true, true_or, false_or, or_self, Nat.reduceEqDiff, reduceCtorEq, ↓reduceIte, List.length_cons, List.length_nil, Nat.reduceLT, Nat.reduceLeDiff, Nat.le_refl, implies_true, true_and, and_true, Option.toList, List.cons_append, List.nil_append]
    rw [← hQ]
    exact ⟨rfl, rfl, hH⟩
  have loop : ∀ k v p H u y, k < 90 → v < 2 ^ 31 → (∀ i, i < 90 → p i < 90) → s69 h H p → sh k v p = sh (R - 1) s (fun i => i) → ma_J l g x none me_Arc_shuffle pr_Arc_shuffle Q 11 [some (.ref 2), some (.int (nI s)), some (.int (nI v)), some (.int (nI k)), u, y] [] 0 0 GS H := by
    intro k
    induction k with
    | zero =>
      intro v p H u y _ hv hp' hH he
      have t := fin H [some (.ref 2), some (.int (nI s)), some (.int (nI v)), some (.int (nI 0)), u, y] (by rw [← he]; exact hH) rfl
      refine ma_run0 po_Arc_shuffle rfl rfl [11, 14, 50] 60 ?_
      simp only [pa_Arc_shuffle, ma_go, ev_A, ev_B, ev_C, ev_D, Nat.reduceAdd, List.mem_cons, List.not_mem_nil, or_false, or_true, true_or, false_or, or_self, Nat.reduceEqDiff, reduceCtorEq, ↓reduceIte, List.length_cons, List.length_nil, Nat.reduceLT, Nat.reduceLeDiff, Nat.le_refl, implies_true, true_and, and_true, Option.toList, List.cons_append, List.nil_append]
      exact ⟨fun _ => t, fun q => absurd (nI_lt (by decide) (by decide)) q⟩
    | succ k ih =>
      intro v p H u y hk hv hp' hH he
      have hpH := s69_pt hH hp
      have n6 : ¬ nI 65536 = 0 := nx_ne0 (by decide) (by decide)
      have nk : ¬ nI (k + 1 + 1) = 0 := nx_ne0 (by omega) (by omega)
      have ol := Nat.mod_lt (lcg v / 65536) (show k + 2 > 0 by omega)
      have ol2 : lcg v / 65536 % (k + 1 + 1) < k + 2 := ol
      have lv := lcg_lt v
      have p1 : 70 ≤ H.2.2 69 (k + 1) ∧ H.2.2 69 (k + 1) ≤ 159 := by rw [hH.2.2.2 _ (by omega)]; exact h69 _ (hp' _ (by omega))
      have p2 : 70 ≤ H.2.2 69 (lcg v / 65536 % (k + 2)) ∧ H.2.2 69 (lcg v / 65536 % (k + 2)) ≤ 159 := by rw [hH.2.2.2 _ (by omega)]; exact h69 _ (hp' _ (by omega))
      have tk := ma_in_of (i := k + 1) gs_69 (by omega) (by decide)
      have to := ma_in_of (i := lcg v / 65536 % (k + 2)) gs_69 (by omega) (by decide)
      have i2 := ih (lcg v) (sw p (k + 1) (lcg v / 65536 % (k + 2))) (ma_uR (ma_uR H 69 (k + 1) (H.2.2 69 (lcg v / 65536 % (k + 2)))) 69 (lcg v / 65536 % (k + 2)) (H.2.2 69 (k + 1))) (some (.int (nI (lcg v / 65536 % (k + 2))))) (some (.ref (H.2.2 69 (k + 1)))) (by omega) (by omega) (fun i hi => by
        unfold sw
        split
        · exact hp' _ (by omega)
        · split
          · exact hp' _ (by omega)
          · exact hp' i hi) ⟨hH.1, hH.2.1, fun a ha => by
            funext j
            rw [uR_e, uR_e, if_neg (fun z => ha z.1), if_neg (fun z => ha z.1), hH.2.2.1 a ha], fun i hi => by
            rw [uR_e, uR_e]
            unfold sw
            by_cases e1 : i = k + 1
            · by_cases e2 : i = lcg v / 65536 % (k + 2)
              · rw [if_pos ⟨rfl, e2⟩, if_pos e1, hH.2.2.2 _ (by omega), ← e2, e1]
              · rw [if_neg (fun z => e2 z.2), if_pos ⟨rfl, e1⟩, if_pos e1, hH.2.2.2 _ (by omega)]
            · by_cases e2 : i = lcg v / 65536 % (k + 2)
              · rw [if_pos ⟨rfl, e2⟩, if_neg e1, if_pos e2, hH.2.2.2 _ (by omega)]
              · rw [if_neg (fun z => e2 z.2), if_neg (fun z => e1 z.2), if_neg e1, if_neg e2, hH.2.2.2 _ hi]⟩ he
      have e23 : ∀ k v, (ma_uR H 69 k v).2.2 2 3 = 69 := fun k v => by rw [uR_e, if_neg (by omega)]; exact pt_2_3 hpH
      refine ma_run0 po_Arc_shuffle rfl rfl [11, 50] 80 ?_
      simp only [pa_Arc_shuffle, ma_go, ev_A, ev_B, ev_C, ev_D, Nat.reduceAdd, List.mem_cons, List.not_mem_nil, or_false, or_true, true_or, false_or, or_self, Nat.reduceEqDiff, reduceCtorEq, ↓reduceIte, List.length_cons, List.length_nil, Nat.reduceLT, Nat.reduceLeDiff, Nat.le_refl, implies_true, true_and, and_true, Option.toList, List.cons_append, List.nil_append, gs_2, pt_Arc hpH, e23]
      rw [lcg_i, pk_div (by omega) (by omega) (by omega), nx_1, ma_irem_nI (by omega) (by omega) (by omega), nI_clamp (n := k + 1) (by omega), nI_clamp (n := lcg v / 65536 % (k + 1 + 1)) (by omega), nx_m1]
      exact ⟨fun q => absurd ((nI_ltI (by omega) (by omega)).mp q) (by omega), fun _ => ⟨n6, nk, tk, to, tk, gs_row (Or.inr p2), to, gs_row (Or.inr p1), i2⟩⟩
  refine ma_run0 po_Arc_shuffle rfl rfl [4] 60 ?_
  simp only [pa_Arc_shuffle, ma_go, ev_A, ev_B, ev_C, ev_D, Nat.reduceAdd, List.mem_cons, List.not_mem_nil, or_false, or_true, true_or, false_or, or_self, Nat.reduceEqDiff, reduceCtorEq, ↓reduceIte, List.length_cons, List.length_nil, Nat.reduceLT, Nat.reduceLeDiff, Nat.le_refl, implies_true, true_and, and_true, Option.toList, List.cons_append, List.nil_append]
  refine ⟨fun _ => ?_, fun q => absurd (nI_le (Nat.zero_le _) (by omega)) q⟩
  refine ma_run0 po_Arc_shuffle rfl rfl [11] 60 ?_
  simp only [pa_Arc_shuffle, ma_go, ev_A, ev_B, ev_C, ev_D, Nat.reduceAdd, List.mem_cons, List.not_mem_nil, or_false, or_true, true_or, false_or, or_self, Nat.reduceEqDiff, reduceCtorEq, ↓reduceIte, List.length_cons, List.length_nil, Nat.reduceLT, Nat.reduceLeDiff, Nat.le_refl, implies_true, true_and, and_true, Option.toList, List.cons_append, List.nil_append, gs_2, eR]
  by_cases r0 : R = 0
  · subst r0
    have t := fin h [some (.ref 2), some (.int (nI s)), some (.int (nI s)), some (.int (nI 0 - nI 1)), none, none] ⟨rfl, rfl, fun _ _ => rfl, fun _ _ => rfl⟩ rfl
    refine ma_run0 po_Arc_shuffle rfl rfl [14, 50] 60 ?_
    simp only [pa_Arc_shuffle, ma_go, ev_A, ev_B, ev_C, ev_D, Nat.reduceAdd, List.mem_cons, List.not_mem_nil, or_false, or_true, true_or, false_or, or_self, Nat.reduceEqDiff, reduceCtorEq, ↓reduceIte, List.length_cons, List.length_nil, Nat.reduceLT, Nat.reduceLeDiff, Nat.le_refl, implies_true, true_and, and_true, Option.toList, List.cons_append, List.nil_append]
    exact ⟨fun _ => t, fun q => absurd (by decide +kernel) q⟩
  · rw [nx_sub' (by omega)]
    exact loop (R - 1) s (fun i => i) h none none (by omega) hs (fun i hi => hi) ⟨rfl, rfl, fun _ _ => rfl, fun _ _ => rfl⟩ rfl
end
