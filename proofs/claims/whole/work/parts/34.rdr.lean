/-! what a read says: the tail, the near words, the first that fits; the class's Reader -/
def fi (P : Nat → Bool) : Nat → Option Nat
  | 0 => none
  | m + 1 => match fi P m with
    | some i => some i
    | none => if P m = true then some m else none
theorem fi_no {P : Nat → Bool} : ∀ {m : Nat}, (∀ i, i < m → P i = false) → fi P m = none
  | 0, _ => rfl
  | m + 1, h => by
    rw [fi, fi_no (fun i hi => h i (by omega)), h m (by omega)]
    rfl
theorem fi_at {P : Nat → Bool} {i : Nat} (h1 : ∀ j, j < i → P j = false) (h2 : P i = true) : ∀ {m : Nat}, i < m → fi P m = some i
  | m + 1, h => by
    rw [fi]
    by_cases e : i = m
    · subst e
      rw [fi_no h1, h2]
      rfl
    · rw [fi_at h1 h2 (show i < m by omega)]
def okb (w : Nat → Nat) (s g : Nat) : Bool := (sm 33 w % 4 == s) && (sm 33 (ri w) % 33 == g)
theorem ri_congr {w v : Nat → Nat} (h : ∀ k, k < 33 → w k = v k) {i : Nat} (hi : i < 33) : ri w i = ri v i := by
  unfold ri
  rw [h i hi, h (i - 1) (by omega)]
theorem okb_congr {w v : Nat → Nat} (h : ∀ k, k < 33 → w k = v k) (s g : Nat) : okb w s g = okb v s g := by
  unfold okb
  rw [sm_congr 33 h, sm_congr 33 (fun i hi => ri_congr h hi)]
theorem bd_congr {h : ma_H} {a : Nat} {w v : Nat → Nat} (e : ∀ k, k < 33 → w k = v k) (hb : bd h a w) : bd h a v := ⟨fun k hk => by rw [← e k hk]; exact hb.1 k hk, by rw [← sm_congr 33 e]; exact hb.2.1, by rw [← sm_congr 33 (fun i hi => ri_congr e hi)]; exact hb.2.2⟩
def tl (f : Nat → Nat) (s : Nat) : Option Nat := mj (f s) (f (s + 1)) (f (s + 2))
def du (f : Nat → Nat) (n : Nat) : Option (Nat × Nat) := match tl f (n - 12), tl f (n - 12 + 3), tl f (n - 12 + 6), tl f (n - 12 + 9) with
  | some s, some a, some b, some c => if 16 * a + 4 * b + c < 33 then some (s, 16 * a + 4 * b + c) else none
  | _, _, _, _ => none
def ct (f : Nat → Nat) (i c : Nat) : Nat → Nat := fun k => if k < i then f k else if k = i then c else f (k - 1)
def gr (f : Nat → Nat) (i : Nat) : Nat → Nat := fun k => if k < i then f k else f (k + 1)
/-- the letter that the sum s asks for -/
def ml (f : Nat → Nat) (s : Nat) : Nat := (s + 4 * 32 - sm 32 f) % 4
def wd (f : Nat → Nat) (n : Nat) : Option (Nat → Nat) := match du f n with
  | none => none
  | some (s, g) => if n = 45 then (if okb f s g = true then some f else none) else if n = 44 then (fi (fun i => okb (ct f i (ml f s)) s g) 33).map (fun i => ct f i (ml f s)) else (fi (fun i => okb (gr f i) s g) 34).map (gr f)
theorem oI_no {o : Option Nat} (h : ∀ v, o = some v → v < 2 ^ 20) (q : oI o = -1) : o = none := by
  cases o with
  | none => rfl
  | some v =>
    exfalso
    have h1 := h v rfl
    have h2 : (nI v).toInt = (v : Int) := nI_toInt (by omega)
    rw [show nI v = -1 from q] at h2
    have h3 : (-1 : Int32).toInt = -1 := by decide +kernel
    rw [h3] at h2
    omega
theorem oI_so {o : Option Nat} (q : ¬ oI o = -1) : ∃ v, o = some v := by
  cases o with
  | none => exact absurd rfl q
  | some v => exact ⟨v, rfl⟩
theorem tl_lt {f : Nat → Nat} {s : Nat} (h : ∀ k, k < 3 → f (s + k) < 4) {v : Nat} (q : tl f s = some v) : v < 4 := mj_lt (h 0 (by omega)) (h 1 (by omega)) q
section
variable (l : Launch) (g : ma_G) (x : Bool) {h : ma_H}
theorem m_isDue (hp : pt_ok h) {w : Nat → Nat} (hw : wf w) (hb : bd h 177 w) {s G : Nat} (hs : s < 4) (hG : G < 33) (e1 : h.1 176 1 = nI s) (e2 : h.1 176 2 = nI G) : ma_PM l g x me_Rdr_isDue [.ref 176] GS h (fun v S' h' => v = some (.int (nI (zb (okb w s G)))) ∧ S' = GS ∧ h' = h) := by
  refine ma_PM_of (P := pr_Rdr_isDue) (by decide) rfl (Nat.le_of_ble_eq_true rfl) ?_
  show ma_J l g x none me_Rdr_isDue pr_Rdr_isDue _ 0 [some (.ref 176)] [] 0 0 GS h
  have b1 : sm 33 w % 4 < 4 := Nat.mod_lt _ (by decide)
  have b2 : sm 33 (ri w) % 33 < 33 := Nat.mod_lt _ (by decide)
  refine ma_run0 po_Rdr_isDue rfl rfl [] 60 ?_
  simp only [pa_Rdr_isDue, ma_go, ev_A, ev_B, ev_C, ev_D, Nat.reduceAdd, List.mem_cons, List.not_mem_nil, or_false, or_true, true_or, false_or, or_self, Nat.reduceEqDiff, reduceCtorEq, ↓reduceIte, List.length_cons, List.length_nil, Nat.reduceLT, Nat.reduceLeDiff, Nat.le_refl, implies_true, true_and, and_true, Option.toList, List.cons_append, List.nil_append, gs_176, gs_177, pt_Rdr hp, e1, e2]
  refine ma_callD mt_Bod_sum rfl rfl (Nat.le_of_ble_eq_true rfl) (Nat.le_refl _) (Nat.le_refl _) (m_bsum l g x hw (Or.inr rfl) hb.2.1) ?_
  simp only [pa_Rdr_isDue, ma_go, ev_A, ev_B, ev_C, ev_D, Nat.reduceAdd, List.mem_cons, List.not_mem_nil, or_false, or_true, true_or, false_or, or_self, Nat.reduceEqDiff, reduceCtorEq, ↓reduceIte, List.length_cons, List.length_nil, Nat.reduceLT, Nat.reduceLeDiff, Nat.le_refl, implies_true, true_and, and_true, Option.toList, List.cons_append, List.nil_append, gs_176, gs_177, pt_Rdr hp, e1, e2]
  refine ⟨fun q => ?_, fun q => ?_⟩
  · rw [show okb w s G = false by unfold okb; rw [show (sm 33 w % 4 == s) = false from beq_eq_false_iff_ne.mpr (fun z => q (by rw [z]))]; rfl]
    rfl
  · have q1 := (nI_eq (by omega) (by omega)).mp q
    refine ma_callD mt_Bod_signature rfl rfl (Nat.le_of_ble_eq_true rfl) (Nat.le_refl _) (Nat.le_refl _) (m_bsig l g x (Or.inr rfl) hb.2.2) ?_
    simp only [pa_Rdr_isDue, ma_go, ev_A, ev_B, ev_C, ev_D, Nat.reduceAdd, List.mem_cons, List.not_mem_nil, or_false, or_true, true_or, false_or, or_self, Nat.reduceEqDiff, reduceCtorEq, ↓reduceIte, List.length_cons, List.length_nil, Nat.reduceLT, Nat.reduceLeDiff, Nat.le_refl, implies_true, true_and, and_true, Option.toList, List.cons_append, List.nil_append, gs_176, gs_177, pt_Rdr hp, e1, e2]
    refine ⟨fun q2 => ?_, fun q2 => ?_⟩
    · rw [show okb w s G = false by unfold okb; rw [show (sm 33 (ri w) % 33 == G) = false from beq_eq_false_iff_ne.mpr (fun z => q2 (by rw [z])), Bool.and_false]]
      rfl
    · have q3 := (nI_eq (by omega) (by omega)).mp q2
      rw [show okb w s G = true by unfold okb; rw [q1, q3]; simp]
      rfl
theorem m_majority {a n : Nat} {f : Nat → Nat} (ha : isr a) (hr : rf h a n f) (hn : n ≤ 60) {s : Nat} (hs : s + 3 ≤ n) : ma_PM l g x me_Rdr_majority [.ref a, .int (nI s)] GS h (fun v S' h' => v = some (.int (oI (tl f s))) ∧ S' = GS ∧ h' = h) := by
  refine ma_PM_of (P := pr_Rdr_majority) (by decide) rfl (Nat.le_of_ble_eq_true rfl) ?_
  show ma_J l g x none me_Rdr_majority pr_Rdr_majority _ 0 [some (.ref a), some (.int (nI s)), none, none, none] [] 0 0 GS h
  have l0 := rf_lt hr (show s < n by omega)
  have l1 := rf_lt hr (show s + 1 < n by omega)
  have l2 := rf_lt hr (show s + 2 < n by omega)
  have q01 : nI (f s) = nI (f (s + 1)) ↔ f s = f (s + 1) := nI_eq (by omega) (by omega)
  have q02 : nI (f s) = nI (f (s + 2)) ↔ f s = f (s + 2) := nI_eq (by omega) (by omega)
  have q12 : nI (f (s + 1)) = nI (f (s + 2)) ↔ f (s + 1) = f (s + 2) := nI_eq (by omega) (by omega)
  refine ma_run0 po_Rdr_majority rfl rfl [] 60 ?_
  simp only [pa_Rdr_majority, ma_go, ev_A, ev_B, ev_C, ev_D, Nat.reduceAdd, List.mem_cons, List.not_mem_nil, or_false, or_true, true_or, false_or, or_self, Nat.reduceEqDiff, reduceCtorEq, ↓reduceIte, List.length_cons, List.length_nil, Nat.reduceLT, Nat.reduceLeDiff, Nat.le_refl, implies_true, true_and, and_true, Option.toList, List.cons_append, List.nil_append, gs_row ha]
  refine ma_callD mt_Row_at rfl rfl (Nat.le_of_ble_eq_true rfl) (Nat.le_refl _) (Nat.le_refl _) (m_atf l g x ha hr hn (by omega)) ?_
  simp only [pa_Rdr_majority, ma_go, ev_A, ev_B, ev_C, ev_D, Nat.reduceAdd, List.mem_cons, List.not_mem_nil, or_false, or_true, true_or, false_or, or_self, Nat.reduceEqDiff, reduceCtorEq, ↓reduceIte, List.length_cons, List.length_nil, Nat.reduceLT, Nat.reduceLeDiff, Nat.le_refl, implies_true, true_and, and_true, Option.toList, List.cons_append, List.nil_append, gs_row ha]
  rw [nI_add]
  refine ma_callD mt_Row_at rfl rfl (Nat.le_of_ble_eq_true rfl) (Nat.le_refl _) (Nat.le_refl _) (m_atf l g x ha hr hn (by omega)) ?_
  simp only [pa_Rdr_majority, ma_go, ev_A, ev_B, ev_C, ev_D, Nat.reduceAdd, List.mem_cons, List.not_mem_nil, or_false, or_true, true_or, false_or, or_self, Nat.reduceEqDiff, reduceCtorEq, ↓reduceIte, List.length_cons, List.length_nil, Nat.reduceLT, Nat.reduceLeDiff, Nat.le_refl, implies_true, true_and, and_true, Option.toList, List.cons_append, List.nil_append, gs_row ha]
  rw [nI_add]
  refine ma_callD mt_Row_at rfl rfl (Nat.le_of_ble_eq_true rfl) (Nat.le_refl _) (Nat.le_refl _) (m_atf l g x ha hr hn (by omega)) ?_
  simp only [pa_Rdr_majority, ma_go, ev_A, ev_B, ev_C, ev_D, Nat.reduceAdd, List.mem_cons, List.not_mem_nil, or_false, or_true, true_or, false_or, or_self, Nat.reduceEqDiff, reduceCtorEq, ↓reduceIte, List.length_cons, List.length_nil, Nat.reduceLT, Nat.reduceLeDiff, Nat.le_refl, implies_true, true_and, and_true, Option.toList, List.cons_append, List.nil_append, gs_row ha]
  unfold tl mj
  rw [q01, q02, q12]
  by_cases e1 : f s = f (s + 1)
  · rw [if_pos (Or.inl e1)]
    exact ⟨fun _ => rfl, fun q => absurd e1 q⟩
  · by_cases e2 : f s = f (s + 2)
    · rw [if_pos (Or.inr e2)]
      exact ⟨fun q => absurd q e1, fun _ => ⟨fun q => absurd e2 q, fun _ => rfl⟩⟩
    · rw [if_neg (fun z => z.elim e1 e2)]
      by_cases e3 : f (s + 1) = f (s + 2)
      · rw [if_pos e3]
        exact ⟨fun q => absurd q e1, fun _ => ⟨fun _ => ⟨fun q => absurd e3 q, fun _ => rfl⟩, fun q => absurd q e2⟩⟩
      · rw [if_neg e3]
        exact ⟨fun q => absurd q e1, fun _ => ⟨fun _ => ⟨fun _ => rfl, fun q => absurd q e3⟩, fun q => absurd q e2⟩⟩
theorem m_takeTail {a n : Nat} {f : Nat → Nat} (ha : isr a) (hr : rf h a n f) (hn : n ≤ 60) (h12 : 12 ≤ n) : ma_PM l g x me_Rdr_takeTail [.ref 176, .ref a] GS h (fun v S' h' => S' = GS ∧ on h h' [176] ∧ ((v = some (.int (nI 1)) ∧ ∃ s G, s < 4 ∧ G < 33 ∧ du f n = some (s, G) ∧ h'.1 176 1 = nI s ∧ h'.1 176 2 = nI G) ∨ (v = some (.int (nI 0)) ∧ du f n = none))) := by
  refine ma_PM_of (P := pr_Rdr_takeTail) (by decide) rfl (Nat.le_of_ble_eq_true rfl) ?_
  show ma_J l g x none me_Rdr_takeTail pr_Rdr_takeTail _ 0 [some (.ref 176), some (.ref a), none, none, none, none] [] 0 0 GS h
  have hl : ∀ k, k < n → f k < 4 := fun k hk => rf_lt hr hk
  have e3 := hr.1
  have o1 : on h (ma_uI h 176 1 (oI (tl f (n - 12)))) [176] := on_uI (on_rf h _) _ _ (by simp)
  have hr1 := rf_onr (onr_on o1) (a := a) (by rcases ha with ha | ha <;> simp <;> omega) hr
  have t1 : ∀ v, tl f (n - 12) = some v → v < 4 := fun v q => tl_lt (fun k hk => hl _ (by omega)) q
  have t2 : ∀ v, tl f (n - 12 + 3) = some v → v < 4 := fun v q => tl_lt (fun k hk => hl _ (by omega)) q
  have t3 : ∀ v, tl f (n - 12 + 6) = some v → v < 4 := fun v q => tl_lt (fun k hk => hl _ (by omega)) q
  have t4 : ∀ v, tl f (n - 12 + 9) = some v → v < 4 := fun v q => tl_lt (fun k hk => hl _ (by omega)) q
  refine ma_run0 po_Rdr_takeTail rfl rfl [] 80 ?_
  simp only [pa_Rdr_takeTail, ma_go, ev_A, ev_B, ev_C, ev_D, Nat.reduceAdd, List.mem_cons, List.not_mem_nil, or_false, or_true, true_or, false_or, or_self, Nat.reduceEqDiff, reduceCtorEq, ↓reduceIte, List.length_cons, List.length_nil, Nat.reduceLT, Nat.reduceLeDiff, Nat.le_refl, implies_true, true_and, and_true, Option.toList, List.cons_append, List.nil_append, gs_176, gs_row ha, e3]
  rw [nx_sub' (by omega)]
  refine ma_callD mt_Rdr_majority rfl rfl (Nat.le_of_ble_eq_true rfl) (Nat.le_refl _) (Nat.le_refl _) (m_majority l g x ha hr hn (by omega)) ?_
  simp only [pa_Rdr_takeTail, ma_go, ev_A, ev_B, ev_C, ev_D, Nat.reduceAdd, List.mem_cons, List.not_mem_nil, or_false, or_true, true_or, false_or, or_self, Nat.reduceEqDiff, reduceCtorEq, ↓reduceIte, List.length_cons, List.length_nil, Nat.reduceLT, Nat.reduceLeDiff, Nat.le_refl, implies_true, true_and, and_true, Option.toList, List.cons_append, List.nil_append, gs_176, gs_row ha, e3]
  rw [nI_add]
  refine ma_callD mt_Rdr_majority rfl rfl (Nat.le_of_ble_eq_true rfl) (Nat.le_refl _) (Nat.le_refl _) (m_majority l g x ha hr1 hn (by omega)) ?_
  simp only [pa_Rdr_takeTail, ma_go, ev_A, ev_B, ev_C, ev_D, Nat.reduceAdd, List.mem_cons, List.not_mem_nil, or_false, or_true, true_or, false_or, or_self, Nat.reduceEqDiff, reduceCtorEq, ↓reduceIte, List.length_cons, List.length_nil, Nat.reduceLT, Nat.reduceLeDiff, Nat.le_refl, implies_true, true_and, and_true, Option.toList, List.cons_append, List.nil_append, gs_176, gs_row ha, e3]
  rw [nI_add]
  refine ma_callD mt_Rdr_majority rfl rfl (Nat.le_of_ble_eq_true rfl) (Nat.le_refl _) (Nat.le_refl _) (m_majority l g x ha hr1 hn (by omega)) ?_
  simp only [pa_Rdr_takeTail, ma_go, ev_A, ev_B, ev_C, ev_D, Nat.reduceAdd, List.mem_cons, List.not_mem_nil, or_false, or_true, true_or, false_or, or_self, Nat.reduceEqDiff, reduceCtorEq, ↓reduceIte, List.length_cons, List.length_nil, Nat.reduceLT, Nat.reduceLeDiff, Nat.le_refl, implies_true, true_and, and_true, Option.toList, List.cons_append, List.nil_append, gs_176, gs_row ha, e3]
  rw [nI_add]
  refine ma_callD mt_Rdr_majority rfl rfl (Nat.le_of_ble_eq_true rfl) (Nat.le_refl _) (Nat.le_refl _) (m_majority l g x ha hr1 hn (by omega)) ?_
  simp only [pa_Rdr_takeTail, ma_go, ev_A, ev_B, ev_C, ev_D, Nat.reduceAdd, List.mem_cons, List.not_mem_nil, or_false, or_true, true_or, false_or, or_self, Nat.reduceEqDiff, reduceCtorEq, ↓reduceIte, List.length_cons, List.length_nil, Nat.reduceLT, Nat.reduceLeDiff, Nat.le_refl, implies_true, true_and, and_true, Option.toList, List.cons_append, List.nil_append, gs_176, gs_row ha, e3]
  generalize hH : ma_uI (ma_uI h 176 1 (oI (tl f (n - 12)))) 176 2 (nI 16 * oI (tl f (n - 12 + 3)) + nI 4 * oI (tl f (n - 12 + 6)) + oI (tl f (n - 12 + 9))) = H
  have o2 : on h H [176] := by rw [← hH]; exact on_uI o1 _ _ (by simp)
  have f1 : H.1 176 1 = oI (tl f (n - 12)) := by rw [← hH, uI_ne (by omega), uI_same]
  have f2 : H.1 176 2 = nI 16 * oI (tl f (n - 12 + 3)) + nI 4 * oI (tl f (n - 12 + 6)) + oI (tl f (n - 12 + 9)) := by rw [← hH, uI_same]
  rw [f1, f2]
  have big : ∀ {o : Option Nat}, (∀ v, o = some v → v < 4) → oI o = -1 → o = none := fun h q => oI_no (fun v z => by have := h v z; omega) q
  refine ⟨fun q => ⟨o2, Or.inr ?_⟩, fun q1 => ⟨fun q => ⟨o2, Or.inr ?_⟩, fun q2 => ⟨fun q => ⟨o2, Or.inr ?_⟩, fun q3 => ⟨fun q => ⟨o2, Or.inr ?_⟩, fun q4 => ?_⟩⟩⟩⟩
  · unfold du; rw [big t1 q]
  · unfold du; rw [big t2 q]; cases tl f (n - 12) <;> rfl
  · unfold du; rw [big t3 q]; cases tl f (n - 12) <;> cases tl f (n - 12 + 3) <;> rfl
  · unfold du; rw [big t4 q]; cases tl f (n - 12) <;> cases tl f (n - 12 + 3) <;> cases tl f (n - 12 + 6) <;> rfl
  · obtain ⟨v1, w1⟩ := oI_so q1
    obtain ⟨v2, w2⟩ := oI_so q2
    obtain ⟨v3, w3⟩ := oI_so q3
    obtain ⟨v4, w4⟩ := oI_so q4
    have z1 := t1 _ w1
    have z2 := t2 _ w2
    have z3 := t3 _ w3
    have z4 := t4 _ w4
    have hd : du f n = if 16 * v2 + 4 * v3 + v4 < 33 then some (v1, 16 * v2 + 4 * v3 + v4) else none := by unfold du; rw [w1, w2, w3, w4]
    have hG : nI 16 * oI (tl f (n - 12 + 3)) + nI 4 * oI (tl f (n - 12 + 6)) + oI (tl f (n - 12 + 9)) = nI (16 * v2 + 4 * v3 + v4) := by
      rw [w2, w3, w4]
      show nI 16 * nI v2 + nI 4 * nI v3 + nI v4 = _
      rw [pk_mul, pk_mul, nI_add, nI_add]
    rw [hG, hd]
    refine ⟨fun q => ⟨o2, Or.inr ?_⟩, fun q => ⟨o2, Or.inl ⟨v1, 16 * v2 + 4 * v3 + v4, z1, ?_, ?_, by rw [w1]; rfl, rfl⟩⟩⟩
    · have := (nI_leI (by omega) (by omega)).mp q
      rw [if_neg (by omega)]
    · exact Nat.lt_of_not_le (fun z => q (nI_le z (by omega)))
    · rw [if_pos (Nat.lt_of_not_le (fun z => q (nI_le z (by omega))))]
end
