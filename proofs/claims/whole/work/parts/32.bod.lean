/-! the class's Body -/
def up (w : Nat → Nat) (i c : Nat) : Nat → Nat := fun k => if k = i then c else w k
theorem sm_one {f : Nat → Nat} {i c : Nat} : ∀ n, sm n (up f i c) + (if i < n then f i else 0) = sm n f + (if i < n then c else 0)
  | 0 => by simp [sm]
  | n + 1 => by
    have ih := sm_one (f := f) (i := i) (c := c) n
    rw [sm, sm]
    by_cases e : i = n
    · subst e
      rw [if_neg (by omega), if_neg (by omega)] at ih
      rw [if_pos (by omega), if_pos (by omega), show up f i c i = c from if_pos rfl]
      omega
    · rw [show up f i c n = f n from if_neg (by omega)]
      by_cases h : i < n
      · rw [if_pos h, if_pos h] at ih
        rw [if_pos (by omega), if_pos (by omega)]
        omega
      · rw [if_neg h, if_neg h] at ih
        rw [if_neg (by omega), if_neg (by omega)]
        omega
theorem sm_two {f k : Nat → Nat} {i : Nat} (hf : ∀ j, j ≠ i → j ≠ i + 1 → f j = k j) : ∀ n, sm n k + ((if i < n then f i else 0) + (if i + 1 < n then f (i + 1) else 0)) = sm n f + ((if i < n then k i else 0) + (if i + 1 < n then k (i + 1) else 0))
  | 0 => by simp [sm]
  | n + 1 => by
    have ih := sm_two hf n
    rw [sm, sm]
    by_cases e : i = n
    · subst e
      rw [if_neg (by omega), if_neg (by omega), if_neg (by omega), if_neg (by omega)] at ih
      rw [if_pos (by omega), if_neg (by omega), if_pos (by omega), if_neg (by omega)]
      omega
    · by_cases e2 : i + 1 = n
      · subst e2
        rw [if_pos (by omega), if_neg (by omega), if_pos (by omega), if_neg (by omega)] at ih
        rw [if_pos (by omega), if_pos (by omega), if_pos (by omega), if_pos (by omega)]
        omega
      · have h3 := hf n (by omega) (by omega)
        by_cases h : i < n
        · rw [if_pos (by omega), if_pos (by omega), if_pos (by omega), if_pos (by omega)] at ih
          rw [if_pos (by omega), if_pos (by omega), if_pos (by omega), if_pos (by omega)]
          omega
        · rw [if_neg (by omega), if_neg (by omega), if_neg (by omega), if_neg (by omega)] at ih
          rw [if_neg (by omega), if_neg (by omega), if_neg (by omega), if_neg (by omega)]
          omega
def rr (w : Nat → Nat) (i : Nat) : Nat := if i < 33 then ri w i else 0
theorem rr_le (w : Nat → Nat) (i : Nat) : rr w i ≤ 33 := by
  unfold rr
  split
  · have := ri_le w i; omega
  · omega
theorem nx_mid {X Y Z W : Nat} (h : W + Y = X + Z) : nI X - nI Y + nI Z = nI W := by
  rw [Int32.sub_eq_add_neg, Int32.add_assoc, Int32.add_comm (-nI Y), ← Int32.add_assoc, nI_add, ← h, ← Int32.sub_eq_add_neg, nx_sub]
theorem ri_up {w : Nat → Nat} {i c : Nat} (j : Nat) (h1 : j ≠ i) (h2 : j ≠ i + 1) : ri w j = ri (up w i c) j := by
  unfold ri
  rw [show up w i c j = w j from if_neg h1]
  by_cases h0 : j = 0
  · rw [if_neg (by omega), if_neg (by omega)]
  · rw [show up w i c (j - 1) = w (j - 1) from if_neg (by omega)]
theorem up_wf {w : Nat → Nat} {i c : Nat} (hw : wf w) (hc : c < 4) : wf (up w i c) := fun k hk => by
  unfold up
  split
  · exact hc
  · exact hw k hk
def bc (a : Nat) : Prop := a = 173 ∨ a = 177
theorem bc_1 {a : Nat} (h : bc a) : ma_sh GS a = some (.inl 2) := by
  rcases h with rfl | rfl
  · exact gs_173
  · exact gs_177
theorem bc_2 {a : Nat} (h : bc a) : ma_sh GS (a + 1) = some (.inr (.int, 33)) := by
  rcases h with rfl | rfl
  · exact gs_174
  · exact gs_178
theorem bc_3 {a : Nat} (h : bc a) {H : ma_H} (hp : pt_ok H) : H.2.2 a 0 = a + 1 := by
  rcases h with rfl | rfl
  · exact pt_Bod hp
  · exact pt_Bod2 hp
def bd (h : ma_H) (a : Nat) (w : Nat → Nat) : Prop := ar h (a + 1) 33 w ∧ h.1 a 1 = nI (sm 33 w) ∧ h.1 a 2 = nI (sm 33 (ri w))
theorem bd_on {h h' : ma_H} {L : List Nat} (ho : on h h' L) {a : Nat} {w : Nat → Nat} (h1 : a ∉ L) (h2 : a + 1 ∉ L) (hb : bd h a w) : bd h' a w := ⟨ar_on ho h2 hb.1, by rw [ho.2 a h1]; exact hb.2.1, by rw [ho.2 a h1]; exact hb.2.2⟩
section
variable (l : Launch) (g : ma_G) (x : Bool) {h : ma_H} {a : Nat} {w : Nat → Nat}
theorem m_bsum (hw : wf w) (ha : bc a) (hb : h.1 a 1 = nI (sm 33 w)) : ma_PM l g x me_Bod_sum [.ref a] GS h (fun v S' h' => v = some (.int (nI (sm 33 w % 4))) ∧ S' = GS ∧ h' = h) := by
  refine ma_PM_of (P := pr_Bod_sum) (by decide) rfl (Nat.le_of_ble_eq_true rfl) ?_
  show ma_J l g x none me_Bod_sum pr_Bod_sum _ 0 [some (.ref a)] [] 0 0 GS h
  have b := sm_le (f := w) (c := 3) 33 (fun i hi => by have := hw i hi; omega)
  refine ma_run0 po_Bod_sum rfl rfl [] 60 ?_
  simp only [pa_Bod_sum, ma_go, ev_A, ev_B, ev_C, ev_D, Nat.reduceAdd, List.mem_cons, List.not_mem_nil, or_false, or_true, true_or, false_or, or_self, Nat.reduceEqDiff, reduceCtorEq, ↓reduceIte, List.length_cons, List.length_nil, Nat.reduceLT, Nat.reduceLeDiff, Nat.le_refl, implies_true, true_and, and_true, Option.toList, List.cons_append, List.nil_append, bc_1 ha, hb]
  rw [ma_irem_nI (by omega) (by omega) (by omega)]
  exact ⟨nx_ne0 (by decide) (by decide), rfl⟩
theorem m_bsig (ha : bc a) (hb : h.1 a 2 = nI (sm 33 (ri w))) : ma_PM l g x me_Bod_signature [.ref a] GS h (fun v S' h' => v = some (.int (nI (sm 33 (ri w) % 33))) ∧ S' = GS ∧ h' = h) := by
  refine ma_PM_of (P := pr_Bod_signature) (by decide) rfl (Nat.le_of_ble_eq_true rfl) ?_
  show ma_J l g x none me_Bod_signature pr_Bod_signature _ 0 [some (.ref a)] [] 0 0 GS h
  have b := sm_le (f := ri w) (c := 33) 33 (fun i hi => by have := ri_le w i; omega)
  refine ma_run0 po_Bod_signature rfl rfl [] 60 ?_
  simp only [pa_Bod_signature, ma_go, ev_A, ev_B, ev_C, ev_D, Nat.reduceAdd, List.mem_cons, List.not_mem_nil, or_false, or_true, true_or, false_or, or_self, Nat.reduceEqDiff, reduceCtorEq, ↓reduceIte, List.length_cons, List.length_nil, Nat.reduceLT, Nat.reduceLeDiff, Nat.le_refl, implies_true, true_and, and_true, Option.toList, List.cons_append, List.nil_append, bc_1 ha, hb]
  rw [ma_irem_nI (by omega) (by omega) (by omega)]
  exact ⟨nx_ne0 (by decide) (by decide), rfl⟩
theorem m_ahead (hp : pt_ok h) (ha : bc a) (hb : ar h (a + 1) 33 w) {i : Nat} (hi : i < 33) : ma_PM l g x me_Bod_ahead [.ref a, .int (nI i)] GS h (fun v S' h' => v = some (.int (nI (ah w i))) ∧ S' = GS ∧ h' = h) := by
  refine ma_PM_of (P := pr_Bod_ahead) (by decide) rfl (Nat.le_of_ble_eq_true rfl) ?_
  show ma_J l g x none me_Bod_ahead pr_Bod_ahead _ 0 [some (.ref a), some (.int (nI i))] [] 0 0 GS h
  refine ma_run0 po_Bod_ahead rfl rfl [] 60 ?_
  simp only [pa_Bod_ahead, ma_go, ev_A, ev_B, ev_C, ev_D, Nat.reduceAdd, List.mem_cons, List.not_mem_nil, or_false, or_true, true_or, false_or, or_self, Nat.reduceEqDiff, reduceCtorEq, ↓reduceIte, List.length_cons, List.length_nil, Nat.reduceLT, Nat.reduceLeDiff, Nat.le_refl, implies_true, true_and, and_true, Option.toList, List.cons_append, List.nil_append, bc_1 ha, bc_3 ha hp]
  refine ⟨fun q => ?_, fun q => ?_⟩
  · have i0 : i ≠ 0 := fun e => q (by rw [e])
    rw [nx_sub' (by omega), nI_clamp (by omega), hb _ (by omega), ah, if_neg i0]
    exact ⟨ma_in_of (bc_2 ha) (by omega) (by decide), rfl⟩
  · rw [ah, if_pos ((nI_eq (by omega) (by omega)).mp q)]
theorem m_rise (hp : pt_ok h) (hw : wf w) (ha : bc a) (hb : ar h (a + 1) 33 w) {i : Nat} (hi : i ≤ 33) : ma_PM l g x me_Bod_rise [.ref a, .int (nI i)] GS h (fun v S' h' => v = some (.int (nI (rr w i))) ∧ S' = GS ∧ h' = h) := by
  refine ma_PM_of (P := pr_Bod_rise) (by decide) rfl (Nat.le_of_ble_eq_true rfl) ?_
  show ma_J l g x none me_Bod_rise pr_Bod_rise _ 0 [some (.ref a), some (.int (nI i))] [] 0 0 GS h
  refine ma_run0 po_Bod_rise rfl rfl [] 60 ?_
  simp only [pa_Bod_rise, ma_go, ev_A, ev_B, ev_C, ev_D, Nat.reduceAdd, List.mem_cons, List.not_mem_nil, or_false, or_true, true_or, false_or, or_self, Nat.reduceEqDiff, reduceCtorEq, ↓reduceIte, List.length_cons, List.length_nil, Nat.reduceLT, Nat.reduceLeDiff, Nat.le_refl, implies_true, true_and, and_true, Option.toList, List.cons_append, List.nil_append, bc_1 ha, bc_3 ha hp]
  refine ⟨fun q => ?_, fun q => ⟨fun q2 => ?_, fun q2 => ?_⟩⟩
  · have := (nI_ltI (by omega) (by omega)).mp q
    rw [rr, if_pos (by omega), ri, if_neg (by omega)]
  · have := (nI_leI (by omega) (by omega)).mp q2
    rw [rr, if_neg (by omega)]
  · have i1 : 1 ≤ i := Nat.le_of_not_lt (fun z => q (nI_lt z (by omega)))
    have i2 : i < 33 := Nat.lt_of_not_le (fun z => q2 (nI_le z (by omega)))
    have l1 := hw i i2
    have l2 := hw (i - 1) (by omega)
    rw [nx_sub' (by omega), nI_clamp (n := i) (by omega), nI_clamp (n := i - 1) (by omega), hb i i2, hb (i - 1) (by omega)]
    rw [rr, if_pos i2, ri]
    refine ⟨ma_in_of (bc_2 ha) (by omega) (by decide), ma_in_of (bc_2 ha) (by omega) (by decide), fun q3 => ?_, fun q3 => ?_⟩
    · have := (nI_ltI (by omega) (by omega)).mp q3
      rw [if_neg (by omega)]
    · rw [if_pos ⟨by omega, Nat.le_of_not_lt (fun z => q3 (nI_lt z (by omega)))⟩]
theorem m_put (hp : pt_ok h) (hw : wf w) (ha : bc a) (hb : bd h a w) {i c : Nat} (hi : i < 33) (hc : c < 4) : ma_PM l g x me_Bod_put [.ref a, .int (nI i), .int (nI c)] GS h (fun v S' h' => v = none ∧ S' = GS ∧ on h h' [a, a + 1] ∧ bd h' a (up w i c)) := by
  obtain ⟨b1, b2, b3⟩ := hb
  refine ma_PM_of (P := pr_Bod_put) (by decide) rfl (Nat.le_of_ble_eq_true rfl) ?_
  show ma_J l g x none me_Bod_put pr_Bod_put _ 0 [some (.ref a), some (.int (nI i)), some (.int (nI c))] [] 0 0 GS h
  have s1 : sm 33 (up w i c) + w i = sm 33 w + c := by
    have := sm_one (f := w) (i := i) (c := c) 33
    rw [if_pos hi, if_pos hi] at this
    exact this
  have s2 : sm 33 (ri (up w i c)) + (rr w i + rr w (i + 1)) = sm 33 (ri w) + (rr (up w i c) i + rr (up w i c) (i + 1)) := sm_two (fun j h1 h2 => ri_up j h1 h2) 33
  have fin : ∀ H v, on h H [a, a + 1] → ar H (a + 1) 33 (up w i c) → H.1 a 1 = nI (sm 33 (up w i c)) → H.1 a 2 = v → v = nI (sm 33 (ri w)) - nI (rr w i + rr w (i + 1)) → ma_J l g x none me_Bod_put pr_Bod_put (fun v S' h' => v = none ∧ S' = GS ∧ on h h' [a, a + 1] ∧ bd h' a (up w i c)) 34 [some (.ref a), some (.int (nI i)), some (.int (nI c))] [] 0 0 GS H := by
    intro H v ho h1 h2 h3 hv
    have hp' := on_pt ho hp
    refine ma_run0 po_Bod_put rfl rfl [] 80 ?_
    simp only [pa_Bod_put, ma_go, ev_A, ev_B, ev_C, ev_D, Nat.reduceAdd, List.mem_cons, List.not_mem_nil, or_false, or_true, true_or, false_or, or_self, Nat.reduceEqDiff, reduceCtorEq, ↓reduceIte, List.length_cons, List.length_nil, Nat.reduceLT, Nat.reduceLeDiff, Nat.le_refl, implies_true, true_and, and_true, Option.toList, List.cons_append, List.nil_append, bc_1 ha]
    refine ma_callD mt_Bod_rise rfl rfl (Nat.le_of_ble_eq_true rfl) (Nat.le_refl _) (Nat.le_refl _) (m_rise l g x hp' (up_wf hw hc) ha h1 (by omega)) ?_
    simp only [pa_Bod_put, ma_go, ev_A, ev_B, ev_C, ev_D, Nat.reduceAdd, List.mem_cons, List.not_mem_nil, or_false, or_true, true_or, false_or, or_self, Nat.reduceEqDiff, reduceCtorEq, ↓reduceIte, List.length_cons, List.length_nil, Nat.reduceLT, Nat.reduceLeDiff, Nat.le_refl, implies_true, true_and, and_true, Option.toList, List.cons_append, List.nil_append, bc_1 ha]
    rw [nx_1]
    refine ma_callD mt_Bod_rise rfl rfl (Nat.le_of_ble_eq_true rfl) (Nat.le_refl _) (Nat.le_refl _) (m_rise l g x hp' (up_wf hw hc) ha h1 (by omega)) ?_
    simp only [pa_Bod_put, ma_go, ev_A, ev_B, ev_C, ev_D, Nat.reduceAdd, List.mem_cons, List.not_mem_nil, or_false, or_true, true_or, false_or, or_self, Nat.reduceEqDiff, reduceCtorEq, ↓reduceIte, List.length_cons, List.length_nil, Nat.reduceLT, Nat.reduceLeDiff, Nat.le_refl, implies_true, true_and, and_true, Option.toList, List.cons_append, List.nil_append, bc_1 ha]
    refine ⟨on_uI ho _ _ (by simp), fun j hj => ?_, ?_, ?_⟩
    · rw [uI_ne (by omega)]
      exact h1 j hj
    · rw [uI_ne (by omega)]
      exact h2
    · rw [uI_same, h3, hv, nI_add]
      exact nx_mid s2
  have mid : ∀ H v, on h H [a, a + 1] → ar H (a + 1) 33 w → H.1 a 1 = nI (sm 33 w) → H.1 a 2 = v → v = nI (sm 33 (ri w)) - nI (rr w i + rr w (i + 1)) → ma_J l g x none me_Bod_put pr_Bod_put (fun v S' h' => v = none ∧ S' = GS ∧ on h h' [a, a + 1] ∧ bd h' a (up w i c)) 14 [some (.ref a), some (.int (nI i)), some (.int (nI c))] [] 0 0 GS H := by
    intro H v ho h1 h2 h3 hv
    have hp' := on_pt ho hp
    refine ma_run0 po_Bod_put rfl rfl [23] 80 ?_
    simp only [pa_Bod_put, ma_go, ev_A, ev_B, ev_C, ev_D, Nat.reduceAdd, List.mem_cons, List.not_mem_nil, or_false, or_true, true_or, false_or, or_self, Nat.reduceEqDiff, reduceCtorEq, ↓reduceIte, List.length_cons, List.length_nil, Nat.reduceLT, Nat.reduceLeDiff, Nat.le_refl, implies_true, true_and, and_true, Option.toList, List.cons_append, List.nil_append, bc_1 ha, bc_3 ha hp']
    refine ⟨ma_in_of (bc_2 ha) hi (by decide), ?_⟩
    rw [nI_clamp (n := i) (by omega), h2, h1 i hi]
    generalize hH : ma_uI H a 1 (nI (sm 33 w) - nI (w i)) = H2
    have o2 : on h H2 [a, a + 1] := by rw [← hH]; exact on_uI ho _ _ (by simp)
    have hp2 := on_pt o2 hp
    have e1 : H2.1 a 1 = nI (sm 33 w) - nI (w i) := by rw [← hH]; exact uI_same _ _ _ _
    refine ma_run0 po_Bod_put rfl rfl [34] 80 ?_
    simp only [pa_Bod_put, ma_go, ev_A, ev_B, ev_C, ev_D, Nat.reduceAdd, List.mem_cons, List.not_mem_nil, or_false, or_true, true_or, false_or, or_self, Nat.reduceEqDiff, reduceCtorEq, ↓reduceIte, List.length_cons, List.length_nil, Nat.reduceLT, Nat.reduceLeDiff, Nat.le_refl, implies_true, true_and, and_true, Option.toList, List.cons_append, List.nil_append, bc_1 ha, bc_3 ha hp2]
    refine ⟨ma_in_of (bc_2 ha) hi (by decide), ?_⟩
    rw [nI_clamp (n := i) (by omega), uI_ne (by omega), e1, nx_mid s1]
    refine fin _ v (on_uI (on_uI o2 _ _ (by simp)) _ _ (by simp)) (fun j hj => ?_) (uI_same _ _ _ _) ?_ hv
    · rw [uI_ne (by omega)]
      by_cases e : j = i
      · rw [e, uI_same, show up w i c i = c from if_pos rfl]
      · rw [uI_ne (by omega), ← hH, uI_ne (by omega), h1 j hj, show up w i c j = w j from if_neg e]
    · rw [uI_ne (by omega), uI_ne (by omega), ← hH, uI_ne (by omega)]
      exact h3
  refine ma_run0 po_Bod_put rfl rfl [14] 80 ?_
  simp only [pa_Bod_put, ma_go, ev_A, ev_B, ev_C, ev_D, Nat.reduceAdd, List.mem_cons, List.not_mem_nil, or_false, or_true, true_or, false_or, or_self, Nat.reduceEqDiff, reduceCtorEq, ↓reduceIte, List.length_cons, List.length_nil, Nat.reduceLT, Nat.reduceLeDiff, Nat.le_refl, implies_true, true_and, and_true, Option.toList, List.cons_append, List.nil_append, bc_1 ha]
  refine ma_callD mt_Bod_rise rfl rfl (Nat.le_of_ble_eq_true rfl) (Nat.le_refl _) (Nat.le_refl _) (m_rise l g x hp hw ha b1 (by omega)) ?_
  simp only [pa_Bod_put, ma_go, ev_A, ev_B, ev_C, ev_D, Nat.reduceAdd, List.mem_cons, List.not_mem_nil, or_false, or_true, true_or, false_or, or_self, Nat.reduceEqDiff, reduceCtorEq, ↓reduceIte, List.length_cons, List.length_nil, Nat.reduceLT, Nat.reduceLeDiff, Nat.le_refl, implies_true, true_and, and_true, Option.toList, List.cons_append, List.nil_append, bc_1 ha]
  rw [nx_1]
  refine ma_callD mt_Bod_rise rfl rfl (Nat.le_of_ble_eq_true rfl) (Nat.le_refl _) (Nat.le_refl _) (m_rise l g x hp hw ha b1 (by omega)) ?_
  simp only [pa_Bod_put, ma_go, ev_A, ev_B, ev_C, ev_D, Nat.reduceAdd, List.mem_cons, List.not_mem_nil, or_false, or_true, true_or, false_or, or_self, Nat.reduceEqDiff, reduceCtorEq, ↓reduceIte, List.length_cons, List.length_nil, Nat.reduceLT, Nat.reduceLeDiff, Nat.le_refl, implies_true, true_and, and_true, Option.toList, List.cons_append, List.nil_append, bc_1 ha]
  rw [nI_add, b3]
  refine mid _ _ (on_uI (on_rf h _) _ _ (by simp)) (fun j hj => ?_) ?_ (uI_same _ _ _ _) rfl
  · rw [uI_ne (by omega)]
    exact b1 j hj
  · rw [uI_ne (by omega)]
    exact b2
def nr (w : Nat → Nat) (G : Nat) : Prop := ∀ j, j < 11 → w (11 * G + j) ≠ ah w (11 * G + j)
def nr_d (w : Nat → Nat) (G : Nat) : Decidable (nr w G) := Nat.decidableBallLT 11 (fun j _ => w (11 * G + j) ≠ ah w (11 * G + j))
def sp (w : Nat → Nat) (G : Nat) : Option Nat := @ite (Option Nat) (nr w G ∧ gp w G 11 < 65536) (@instDecidableAnd _ _ (nr_d w G) _) (some (gp w G 11)) none
theorem m_spelled (hp : pt_ok h) (hw : wf w) (ha : bc a) (hb : ar h (a + 1) 33 w) {G : Nat} (hG : G < 3) : ma_PM l g x me_Bod_spelled [.ref a, .int (nI G)] GS h (fun v S' h' => v = some (.int (oI (sp w G))) ∧ S' = GS ∧ h' = h) := by
  refine ma_PM_of (P := pr_Bod_spelled) (by decide) rfl (Nat.le_of_ble_eq_true rfl) ?_
  show ma_J l g x none me_Bod_spelled pr_Bod_spelled _ 0 [some (.ref a), some (.int (nI G)), none, none, none, none] [] 0 0 GS h
  have loop : ∀ m j, j + m = 11 → (∀ y, y < j → w (11 * G + y) ≠ ah w (11 * G + y)) → ma_J l g x none me_Bod_spelled pr_Bod_spelled (fun v S' h' => v = some (.int (oI (sp w G))) ∧ S' = GS ∧ h' = h) 8 [some (.ref a), some (.int (nI G)), some (.int (nI (gp w G j))), some (.int (nI (11 * G))), some (.int (nI (11 * G + j))), none] [] 0 0 GS h := by
    intro m
    induction m with
    | zero =>
      intro j hj hy
      have e : j = 11 := by omega
      subst e
      have b1 := gp_b hw hG (Nat.le_refl 11)
      refine ma_run0 po_Bod_spelled rfl rfl [8] 60 ?_
      simp only [pa_Bod_spelled, ma_go, ev_A, ev_B, ev_C, ev_D, Nat.reduceAdd, List.mem_cons, List.not_mem_nil, or_false, or_true, true_or, false_or, or_self, Nat.reduceEqDiff, reduceCtorEq, ↓reduceIte, List.length_cons, List.length_nil, Nat.reduceLT, Nat.reduceLeDiff, Nat.le_refl, implies_true, true_and, and_true, Option.toList, List.cons_append, List.nil_append, bc_1 ha, bc_3 ha hp]
      rw [nI_add]
      refine ⟨fun _ => ⟨fun q => ?_, fun q => ?_⟩, fun q => absurd (nI_le (Nat.le_refl _) (by omega)) q⟩
      · have := (nI_leI (by omega) (by omega)).mp q
        rw [show sp w G = none from if_neg (fun z => by have := z.2; omega)]
        rfl
      · rw [show sp w G = some _ from if_pos ⟨hy, Nat.lt_of_not_le (fun z => q (nI_le z (by omega)))⟩]
        rfl
    | succ m ih =>
      intro j hj hy
      have i1 := fun z => ih (j + 1) (by omega) z
      rw [show gp w G (j + 1) = 3 * gp w G j + dg w (11 * G + j) from rfl] at i1
      have st : w (11 * G + j) = ah w (11 * G + j) → sp w G = none := fun q => if_neg (fun z => z.1 j (by omega) q)
      have st2 : w (11 * G + j) ≠ ah w (11 * G + j) → ∀ y, y < j + 1 → w (11 * G + y) ≠ ah w (11 * G + y) := fun q y hy2 => by
        by_cases e : y = j
        · rw [e]; exact q
        · exact hy y (by omega)
      generalize hk : 11 * G + j = k at i1 st st2 ⊢
      have hk33 : k < 33 := by omega
      have hv := hb k hk33
      have l1 := hw k hk33
      have l2 := ah_le hw hk33
      refine ma_run0 po_Bod_spelled rfl rfl [8] 60 ?_
      simp only [pa_Bod_spelled, ma_go, ev_A, ev_B, ev_C, ev_D, Nat.reduceAdd, List.mem_cons, List.not_mem_nil, or_false, or_true, true_or, false_or, or_self, Nat.reduceEqDiff, reduceCtorEq, ↓reduceIte, List.length_cons, List.length_nil, Nat.reduceLT, Nat.reduceLeDiff, Nat.le_refl, implies_true, true_and, and_true, Option.toList, List.cons_append, List.nil_append, bc_1 ha, bc_3 ha hp]
      rw [nI_add, nI_clamp (n := k) (by omega), hv]
      refine ⟨fun q => absurd q (nI_ge (by omega) (by omega)), fun _ => ⟨ma_in_of (bc_2 ha) hk33 (by decide), ?_⟩⟩
      refine ma_callD mt_Bod_ahead rfl rfl (Nat.le_of_ble_eq_true rfl) (Nat.le_refl _) (Nat.le_refl _) (m_ahead l g x hp ha hb hk33) ?_
      simp only [pa_Bod_spelled, ma_go, ev_A, ev_B, ev_C, ev_D, Nat.reduceAdd, List.mem_cons, List.not_mem_nil, or_false, or_true, true_or, false_or, or_self, Nat.reduceEqDiff, reduceCtorEq, ↓reduceIte, List.length_cons, List.length_nil, Nat.reduceLT, Nat.reduceLeDiff, Nat.le_refl, implies_true, true_and, and_true, Option.toList, List.cons_append, List.nil_append, bc_1 ha, bc_3 ha hp]
      refine ⟨fun q => ?_, fun q => ?_⟩
      · have i2 := i1 (st2 (fun z => q (by rw [z])))
        refine ma_callD mt_Bod_ahead rfl rfl (Nat.le_of_ble_eq_true rfl) (Nat.le_refl _) (Nat.le_refl _) (m_ahead l g x hp ha hb hk33) ?_
        simp only [pa_Bod_spelled, ma_go, ev_A, ev_B, ev_C, ev_D, Nat.reduceAdd, List.mem_cons, List.not_mem_nil, or_false, or_true, true_or, false_or, or_self, Nat.reduceEqDiff, reduceCtorEq, ↓reduceIte, List.length_cons, List.length_nil, Nat.reduceLT, Nat.reduceLeDiff, Nat.le_refl, implies_true, true_and, and_true, Option.toList, List.cons_append, List.nil_append, bc_1 ha, bc_3 ha hp]
        rw [pk_mul]
        simp only [nI_add]
        refine ⟨fun q2 => ?_, fun q2 => ?_⟩
        · have := (nI_leI (by omega) (by omega)).mp q2
          have : w k ≠ ah w k := fun z => q (by rw [z])
          rw [nx_sub' (by omega), nI_add]
          rw [dg, if_neg (by omega)] at i2
          exact ma_J.less i2 ⟨rfl, rfl, rfl, rfl, by rw [← hk]; rfl, trivial⟩
        · rw [dg, if_pos (Nat.lt_of_not_le (fun z => q2 (nI_le z (by omega))))] at i2
          exact ma_J.less i2 ⟨rfl, rfl, rfl, rfl, by rw [← hk]; rfl, trivial⟩
      · rw [st ((nI_eq (by omega) (by omega)).mp q)]
        rfl
  refine ma_run0 po_Bod_spelled rfl rfl [8] 60 ?_
  simp only [pa_Bod_spelled, ma_go, ev_A, ev_B, ev_C, ev_D, Nat.reduceAdd, List.mem_cons, List.not_mem_nil, or_false, or_true, true_or, false_or, or_self, Nat.reduceEqDiff, reduceCtorEq, ↓reduceIte, List.length_cons, List.length_nil, Nat.reduceLT, Nat.reduceLeDiff, Nat.le_refl, implies_true, true_and, and_true, Option.toList, List.cons_append, List.nil_append]
  rw [pk_mul, Nat.mul_comm]
  exact loop 11 0 (by omega) (fun y hy => by omega)
end
