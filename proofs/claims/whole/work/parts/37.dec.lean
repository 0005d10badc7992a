/-! the class's Column.set, blocksOf, Decoding.begin, slotOf, take -/
def bl (n : Nat) : Nat := (n + 39) / 40
def so (B : Nat) (o : Option Nat) : Option Nat := match o with
  | some v => if v / 256 < B ∧ v % 256 < 16 then some (16 * (v / 256) + v % 256) else none
  | none => none
theorem sp_lt {w : Nat → Nat} {G v : Nat} (h : sp w G = some v) : v < 65536 ∧ v = gp w G 11 ∧ nr w G := by
  unfold sp at h
  by_cases c : nr w G ∧ gp w G 11 < 65536
  · rw [if_pos c] at h
    cases h
    exact ⟨c.2, rfl, c.1⟩
  · rw [if_neg c] at h
    cases h
theorem sp_no {w : Nat → Nat} {G : Nat} (h : sp w G = none) : ¬ (nr w G ∧ gp w G 11 < 65536) := fun c => by
  unfold sp at h
  rw [if_pos c] at h
  cases h
theorem sl_sp (B : Nat) (w : Nat → Nat) : sl B w = (match so B (sp w 0), sp w 1, sp w 2 with
    | some p, some _, some _ => some p
    | _, _, _ => none) := by
  by_cases hc : (∀ k, k < 33 → w k ≠ ah w k) ∧ (∀ g, g < 3 → gp w g 11 < 65536) ∧ gp w 0 11 / 256 < B ∧ gp w 0 11 % 256 < 16
  · have hs : ∀ g, g < 3 → sp w g = some (gp w g 11) := fun g hg => if_pos ⟨fun j hj => hc.1 _ (by omega), hc.2.1 g hg⟩
    rw [show sl B w = _ from if_pos hc, hs 0 (by omega), hs 1 (by omega), hs 2 (by omega)]
    rw [show so B (some (gp w 0 11)) = some (16 * (gp w 0 11 / 256) + gp w 0 11 % 256) from if_pos hc.2.2]
  · rw [show sl B w = none from if_neg hc]
    cases h0 : sp w 0 with
    | none => rfl
    | some v0 =>
      cases h1 : sp w 1 with
      | none => cases so B (some v0) <;> rfl
      | some v1 =>
        cases h2 : sp w 2 with
        | none => cases so B (some v0) <;> rfl
        | some v2 =>
          obtain ⟨a0, b0, c0⟩ := sp_lt h0
          obtain ⟨a1, b1, c1⟩ := sp_lt h1
          obtain ⟨a2, b2, c2⟩ := sp_lt h2
          rw [show so B (some v0) = none from if_neg (fun z => hc ⟨fun k hk => ?_, fun g hg => ?_, by rw [← b0]; exact z.1, by rw [← b0]; exact z.2⟩)]
          · have t : ∀ g, g < 3 → nr w g := fun g hg => by
              rcases (show g = 0 ∨ g = 1 ∨ g = 2 by omega) with rfl | rfl | rfl
              · exact c0
              · exact c1
              · exact c2
            have := t (k / 11) (by omega) (k % 11) (by omega)
            rw [show 11 * (k / 11) + k % 11 = k by omega] at this
            exact this
          · rcases (show g = 0 ∨ g = 1 ∨ g = 2 by omega) with rfl | rfl | rfl
            · omega
            · omega
            · omega
section
variable (l : Launch) (g : ma_G) (x : Bool) {h : ma_H}
theorem m_blocksOf (S : ma_S) {n : Nat} (hn : n ≤ 160) : ma_PM l g x me_Arc_blocksOf [.int (nI n)] S h (fun v S' h' => v = some (.int (nI (bl n))) ∧ S' = S ∧ h' = h) := by
  refine ma_PM_of (P := pr_Arc_blocksOf) (by decide) rfl (Nat.le_of_ble_eq_true rfl) ?_
  show ma_J l g x none me_Arc_blocksOf pr_Arc_blocksOf _ 0 [some (.int (nI n))] [] 0 0 S h
  refine ma_run0 po_Arc_blocksOf rfl rfl [] 60 ?_
  simp only [pa_Arc_blocksOf, ma_go, ev_A, ev_B, ev_C, ev_D, Nat.reduceAdd, List.mem_cons, List.not_mem_nil, or_false, or_true, true_or, false_or, or_self, Nat.reduceEqDiff, reduceCtorEq, ↓reduceIte, List.length_cons, List.length_nil, Nat.reduceLT, Nat.reduceLeDiff, Nat.le_refl, implies_true, true_and, and_true, Option.toList, List.cons_append, List.nil_append]
  rw [nI_add, nx_sub' (by omega), pk_div (by omega) (by omega) (by omega)]
  exact ⟨nx_ne0 (by decide) (by decide), rfl⟩
theorem m_set (hp : pt_ok h) {s v : Nat} {b : Bool} (hs : s < 16) : ma_PM l g x me_Col_set [.ref 163, .int (nI s), .int (nI v), .int (nI (zb b))] GS h (fun r S' h' => r = none ∧ S' = GS ∧ on h h' [164, 165] ∧ h'.1 164 s = nI (if b = true then 0 else v) ∧ h'.1 165 s = nI (zb b) ∧ (∀ k, k ≠ s → h'.1 164 k = h.1 164 k) ∧ ∀ k, k ≠ s → h'.1 165 k = h.1 165 k) := by
  refine ma_PM_of (P := pr_Col_set) (by decide) rfl (Nat.le_of_ble_eq_true rfl) ?_
  show ma_J l g x none me_Col_set pr_Col_set _ 0 [some (.ref 163), some (.int (nI s)), some (.int (nI v)), some (.int (nI (zb b)))] [] 0 0 GS h
  have hz : vp_nar .boolean (nI (zb b)) = nI (zb b) := by cases b <;> decide +kernel
  have key : ∀ u, u = nI (if b = true then 0 else v) → ma_in GS 164 .int (nI s) ∧ ma_in GS 165 .boolean (nI s) ∧ on h (ma_uI (ma_uI h 164 s u) 165 s (nI (zb b))) [164, 165] ∧ (ma_uI (ma_uI h 164 s u) 165 s (nI (zb b))).1 164 s = nI (if b = true then 0 else v) ∧ (ma_uI (ma_uI h 164 s u) 165 s (nI (zb b))).1 165 s = nI (zb b) ∧ (∀ k, k ≠ s → (ma_uI (ma_uI h 164 s u) 165 s (nI (zb b))).1 164 k = h.1 164 k) ∧ ∀ k, k ≠ s → (ma_uI (ma_uI h 164 s u) 165 s (nI (zb b))).1 165 k = h.1 165 k := fun u hu => by
    refine ⟨ma_in_of gs_164 hs (by decide), ma_in_of gs_165 hs (by decide), on_uI (on_uI (on_rf h _) _ _ (by simp)) _ _ (by simp), ?_, uI_same _ _ _ _, fun k hk => ?_, fun k hk => ?_⟩
    · rw [uI_ne (by omega), uI_same]; exact hu
    · rw [uI_ne (by omega), uI_ne (by omega)]
    · rw [uI_ne (by omega), uI_ne (by omega)]
  refine ma_run0 po_Col_set rfl rfl [] 60 ?_
  simp only [pa_Col_set, ma_go, ev_A, ev_B, ev_C, ev_D, Nat.reduceAdd, List.mem_cons, List.not_mem_nil, or_false, or_true, true_or, false_or, or_self, Nat.reduceEqDiff, reduceCtorEq, ↓reduceIte, List.length_cons, List.length_nil, Nat.reduceLT, Nat.reduceLeDiff, Nat.le_refl, implies_true, true_and, and_true, Option.toList, List.cons_append, List.nil_append, pt_Col hp, gs_163]
  simp only [nI_clamp (n := s) (by omega), hz]
  simp only [show ∀ u : Int32, (ma_uI h 164 s u).2.2 163 2 = 165 from fun u => pt_163_2 hp]
  refine ⟨fun q => key _ ?_, fun q => key _ ?_⟩
  · cases b
    · rfl
    · exact absurd q (by decide +kernel)
  · cases b
    · exact absurd rfl q
    · rfl
theorem m_slotOf {n : Nat} (hn : n ≤ 160) (e5 : h.1 175 5 = nI n) {o : Option Nat} (ho : ∀ v, o = some v → v < 65536) : ma_PM l g x me_Dec_slotOf [.ref 175, .int (oI o)] GS h (fun v S' h' => v = some (.int (oI (so (bl n) o))) ∧ S' = GS ∧ h' = h) := by
  refine ma_PM_of (P := pr_Dec_slotOf) (by decide) rfl (Nat.le_of_ble_eq_true rfl) ?_
  show ma_J l g x none me_Dec_slotOf pr_Dec_slotOf _ 0 [some (.ref 175), some (.int (oI o)), none, none, none] [] 0 0 GS h
  have n0 : ¬ nI 256 = 0 := nx_ne0 (by decide) (by decide)
  have hbn : bl n ≤ 4 := by unfold bl; omega
  refine ma_run0 po_Dec_slotOf rfl rfl [] 60 ?_
  simp only [pa_Dec_slotOf, ma_go, ev_A, ev_B, ev_C, ev_D, Nat.reduceAdd, List.mem_cons, List.not_mem_nil, or_false, or_true, true_or, false_or, or_self, Nat.reduceEqDiff, reduceCtorEq, ↓reduceIte, List.length_cons, List.length_nil, Nat.reduceLT, Nat.reduceLeDiff, Nat.le_refl, implies_true, true_and, and_true, Option.toList, List.cons_append, List.nil_append, gs_175, e5]
  refine ⟨n0, n0, fun q => ?_, fun q => ?_⟩
  · rw [oI_no (fun v z => by have := ho v z; omega) q]
    simp only [not_true_eq_false, false_implies, true_implies, and_true]
    rfl
  · obtain ⟨v, rfl⟩ := oI_so q
    have hv := ho v rfl
    rw [show oI (some v) = nI v from rfl, pk_div (by omega) (by omega) (by omega), ma_irem_nI (by omega) (by omega) (by omega)]
    refine ma_callD mt_Arc_blocksOf rfl rfl (Nat.le_of_ble_eq_true rfl) (Nat.le_refl _) (Nat.le_refl _) (m_blocksOf l g x GS hn) ?_
    simp only [pa_Dec_slotOf, ma_go, ev_A, ev_B, ev_C, ev_D, Nat.reduceAdd, List.mem_cons, List.not_mem_nil, or_false, or_true, true_or, false_or, or_self, Nat.reduceEqDiff, reduceCtorEq, ↓reduceIte, List.length_cons, List.length_nil, Nat.reduceLT, Nat.reduceLeDiff, Nat.le_refl, implies_true, true_and, and_true, Option.toList, List.cons_append, List.nil_append]
    rw [Int32.mul_comm, pk_mul, nI_add]
    refine ⟨fun q1 => ⟨fun _ => ?_, fun q2 => absurd trivial q2⟩, fun q1 => ⟨fun q2 => ⟨fun _ => ?_, fun q3 => absurd trivial q3⟩, fun q2 => ⟨fun q3 => absurd q3 (by decide +kernel), fun _ => ?_⟩⟩⟩
    · have := (nI_leI (by omega) (by omega)).mp q1
      rw [show so (bl n) (some v) = none from if_neg (by omega)]
      rfl
    · have := (nI_leI (by omega) (by omega)).mp q2
      rw [show so (bl n) (some v) = none from if_neg (by omega)]
      rfl
    · rw [show so (bl n) (some v) = some _ from if_pos ⟨Nat.lt_of_not_le (fun z => q1 (nI_le z (by omega))), Nat.lt_of_not_le (fun z => q2 (nI_le z (by omega)))⟩]
      rfl
theorem m_begin (hp : pt_ok h) {n : Nat} : ma_PM l g x me_Dec_begin [.ref 175, .int (nI n)] GS h (fun v S' h' => v = none ∧ S' = GS ∧ on h h' [175, 179] ∧ h'.1 175 5 = nI n ∧ h'.1 175 6 = nI 0 ∧ h'.1 175 7 = nI 0 ∧ ar h' 179 64 (fun _ => 0)) := by
  refine ma_PM_of (P := pr_Dec_begin) (by decide) rfl (Nat.le_of_ble_eq_true rfl) ?_
  show ma_J l g x none me_Dec_begin pr_Dec_begin _ 0 [some (.ref 175), some (.int (nI n))] [] 0 0 GS h
  refine ma_run0 po_Dec_begin rfl rfl [] 60 ?_
  simp only [pa_Dec_begin, ma_go, ev_A, ev_B, ev_C, ev_D, Nat.reduceAdd, List.mem_cons, List.not_mem_nil, or_false, or_true, true_or, false_or, or_self, Nat.reduceEqDiff, reduceCtorEq, ↓reduceIte, List.length_cons, List.length_nil, Nat.reduceLT, Nat.reduceLeDiff, Nat.le_refl, implies_true, true_and, and_true, Option.toList, List.cons_append, List.nil_append, gs_175]
  have o1 : on h (ma_uI (ma_uI (ma_uI h 175 5 (nI n)) 175 6 (nI 0)) 175 7 (nI 0)) [175, 179] := on_uI (on_uI (on_uI (on_rf h _) _ _ (by simp)) _ _ (by simp)) _ _ (by simp)
  rw [pt_175_2 (on_pt o1 hp)]
  refine ma_callP mt_Arr_fill rfl rfl (Nat.le_of_ble_eq_true rfl) (Nat.le_refl _) (Nat.le_refl _) (m_fill l g x gs_179 (by decide) 0) ?_
  intro v S' h2 hpost
  obtain ⟨rfl, rfl, o2, a2⟩ := hpost
  simp only [pa_Dec_begin, ma_go, ev_A, ev_B, ev_C, ev_D, Nat.reduceAdd, List.mem_cons, List.not_mem_nil, or_false, or_true, true_or, false_or, or_self, Nat.reduceEqDiff, reduceCtorEq, ↓reduceIte, List.length_cons, List.length_nil, Nat.reduceLT, Nat.reduceLeDiff, Nat.le_refl, implies_true, true_and, and_true, Option.toList, List.cons_append, List.nil_append]
  refine ⟨on_tr o1 (on_mo o2 (by simp)), ?_, ?_, ?_, a2⟩
  · rw [o2.2 175 (by decide), uI_ne (by omega), uI_ne (by omega), uI_same]
  · rw [o2.2 175 (by decide), uI_ne (by omega), uI_same]
  · rw [o2.2 175 (by decide), uI_same]
end
