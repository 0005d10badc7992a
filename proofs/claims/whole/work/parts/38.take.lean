/-! the class's Decoding.take -/
def dst (h : ma_H) (n : Nat) (cl sd : Nat → Nat) (fx dr : Nat) : Prop := h.1 175 5 = nI n ∧ h.1 175 6 = nI fx ∧ h.1 175 7 = nI dr ∧ ar h 179 64 cl ∧ ar h 180 256 sd
def b4 (w : Nat → Nat) (j : Nat) : Nat := if j = 0 then gp w 1 11 / 256 else if j = 1 then gp w 1 11 % 256 else if j = 2 then gp w 2 11 / 256 else gp w 2 11 % 256
def s4 (sd w : Nat → Nat) (p : Nat) : Nat → Nat := fun k => if k / 4 = p then b4 w (k % 4) else sd k
def tk (B : Nat) (f : Nat → Nat) (n : Nat) : Option (Nat × (Nat → Nat)) := match wr f n with
  | some w => (match sl B w with
    | some p => some (p, w)
    | none => none)
  | none => none
theorem uI_s (h : ma_H) (a k : Nat) (v : Int32) : (ma_uI h a k v).2 = h.2 := rfl
theorem so_lt {B : Nat} (hB : B ≤ 4) {o : Option Nat} {p : Nat} (h : so B o = some p) : p < 64 := by
  cases o with
  | none => cases h
  | some v =>
    by_cases c : v / 256 < B ∧ v % 256 < 16
    · rw [show so B (some v) = _ from if_pos c] at h
      cases h
      omega
    · rw [show so B (some v) = _ from if_neg c] at h
      cases h
abbrev tJ (l : Launch) (g : ma_G) (x : Bool) (Q : ma_P) : ma_K := ma_J l g x none me_Dec_take pr_Dec_take Q
section
variable {l : Launch} {g : ma_G} {x : Bool} {Q : ma_P}
theorem tk_55 {H : ma_H} (hp : pt_ok H) {a n p v1 v2 fx dr : Nat} {cl sd w : Nat → Nat} (hd : dst H n cl sd fx dr) (hp64 : p < 64) (hv1 : v1 = gp w 1 11) (hv2 : v2 = gp w 2 11) (b1 : v1 < 65536) (b2 : v2 < 65536)
    (hK : ∀ F, on H F [179, 180] → dst F n (up cl p (cl p + 1)) (s4 sd w p) fx dr → Q none GS F) : tJ l g x Q 55 [some (.ref 175), some (.ref a), some (.int (nI p)), some (.int (nI v1)), some (.int (nI v2)), none] [] 0 0 GS H := by
  obtain ⟨d1, d2, d3, d4, d5⟩ := hd
  have n0 : ¬ nI 256 = 0 := nx_ne0 (by decide) (by decide)
  refine ma_run0 po_Dec_take rfl rfl [] 80 ?_
  simp only [pa_Dec_take, ma_go, ev_A, ev_B, ev_C, ev_D, Nat.reduceAdd, List.mem_cons, List.not_mem_nil, or_false, or_true, true_or, false_or, or_self, Nat.reduceEqDiff, reduceCtorEq, ↓reduceIte, List.length_cons, List.length_nil, Nat.reduceLT, Nat.reduceLeDiff, Nat.le_refl, implies_true, true_and, and_true, Option.toList, List.cons_append, List.nil_append, gs_175, uI_s, pt_Dec hp]
  rw [Int32.mul_comm (nI p), pk_mul]
  simp only [nI_add]
  rw [pk_div (by omega) (by omega) (by omega), ma_irem_nI (by omega) (by omega) (by omega), pk_div (by omega) (by omega) (by omega), ma_irem_nI (by omega) (by omega) (by omega)]
  rw [nI_clamp (n := p) (by omega), nI_clamp (n := 4 * p) (by omega), nI_clamp (n := 4 * p + 1) (by omega), nI_clamp (n := 4 * p + 2) (by omega), nI_clamp (n := 4 * p + 3) (by omega), d4 p hp64, nx_1]
  refine ⟨ma_in_of gs_179 (by omega) (by decide), ma_in_of gs_179 (by omega) (by decide), n0, ma_in_of gs_180 (by omega) (by decide), n0, ma_in_of gs_180 (by omega) (by decide), n0, ma_in_of gs_180 (by omega) (by decide), n0, ma_in_of gs_180 (by omega) (by decide), ?_⟩
  refine hK _ (on_uI (on_uI (on_uI (on_uI (on_uI (on_rf H _) _ _ (by simp)) _ _ (by simp)) _ _ (by simp)) _ _ (by simp)) _ _ (by simp)) ⟨?_, ?_, ?_, fun k hk => ?_, fun k hk => ?_⟩
  · rw [uI_ne (by omega), uI_ne (by omega), uI_ne (by omega), uI_ne (by omega), uI_ne (by omega)]; exact d1
  · rw [uI_ne (by omega), uI_ne (by omega), uI_ne (by omega), uI_ne (by omega), uI_ne (by omega)]; exact d2
  · rw [uI_ne (by omega), uI_ne (by omega), uI_ne (by omega), uI_ne (by omega), uI_ne (by omega)]; exact d3
  · rw [uI_ne (by omega), uI_ne (by omega), uI_ne (by omega), uI_ne (by omega)]
    unfold up
    by_cases e : k = p
    · rw [if_pos e, e, uI_same]
    · rw [if_neg e, uI_ne (by omega)]; exact d4 k hk
  · unfold s4 b4
    by_cases e : k / 4 = p
    · rw [if_pos e]
      by_cases e3 : k = 4 * p + 3
      · rw [e3, uI_same, if_neg (by omega), if_neg (by omega), if_neg (by omega), hv2]
      · rw [uI_ne (by omega)]
        by_cases e2 : k = 4 * p + 2
        · rw [e2, uI_same, if_neg (by omega), if_neg (by omega), if_pos (by omega), hv2]
        · rw [uI_ne (by omega)]
          by_cases e1 : k = 4 * p + 1
          · rw [e1, uI_same, if_neg (by omega), if_pos (by omega), hv1]
          · rw [uI_ne (by omega), show k = 4 * p by omega, uI_same, if_pos (by omega), hv1]
    · rw [if_neg e, uI_ne (by omega), uI_ne (by omega), uI_ne (by omega), uI_ne (by omega), uI_ne (by omega)]
      exact d5 k hk
end
theorem m_take (l : Launch) (g : ma_G) (x : Bool) {h : ma_H} (hp : pt_ok h) {a n N fx dr : Nat} {cl sd f w0 : Nat → Nat} (hn : n ≤ 160) (ha : isr a) (hr : rf h a N f) (hN : N ≤ 60) (hw : wf w0) (hb : bd h 177 w0) (hd : dst h n cl sd fx dr) : ma_PM l g x me_Dec_take [.ref 175, .ref a] GS h (fun v S' h' => v = none ∧ S' = GS ∧ on h h' [175, 176, 177, 178, 179, 180] ∧ (∃ w', wf w' ∧ bd h' 177 w') ∧ ((tk (bl n) f N = none ∧ dst h' n cl sd fx (dr + 1)) ∨ ∃ p w, tk (bl n) f N = some (p, w) ∧ p < 64 ∧ dst h' n (up cl p (cl p + 1)) (s4 sd w p) (fx + (if N = 45 then 0 else 1)) dr)) := by
  refine ma_PM_of (P := pr_Dec_take) (by decide) rfl (Nat.le_of_ble_eq_true rfl) ?_
  show ma_J l g x none me_Dec_take pr_Dec_take _ 0 [some (.ref 175), some (.ref a), none, none, none, none] [] 0 0 GS h
  generalize hQ : (fun (v : Option Value) (S' : ma_S) (h' : ma_H) => v = none ∧ S' = GS ∧ on h h' [175, 176, 177, 178, 179, 180] ∧ (∃ w', wf w' ∧ bd h' 177 w') ∧ ((tk (bl n) f N = none ∧ dst h' n cl sd fx (dr + 1)) ∨ ∃ p w, tk (bl n) f N = some (p, w) ∧ p < 64 ∧ dst h' n (up cl p (cl p + 1)) (s4 sd w p) (fx + (if N = 45 then 0 else 1)) dr)) = Q
  have hbn : bl n ≤ 4 := by unfold bl; omega
  refine ma_run0 po_Dec_take rfl rfl [15, 36, 43] 80 ?_
  simp only [pa_Dec_take, ma_go, ev_A, ev_B, ev_C, ev_D, Nat.reduceAdd, List.mem_cons, List.not_mem_nil, or_false, or_true, true_or, false_or, or_self, Nat.reduceEqDiff, reduceCtorEq, ↓reduceIte, List.length_cons, List.length_nil, Nat.reduceLT, Nat.reduceLeDiff, Nat.le_refl, implies_true, true_and, and_true, Option.toList, List.cons_append, List.nil_append, gs_175, gs_176, pt_Dec hp]
  refine ma_callP mt_Rdr_restore rfl rfl (Nat.le_of_ble_eq_true rfl) (Nat.le_refl _) (Nat.le_refl _) (m_restore l g x hp ha hr hN hw hb) ?_
  intro v S' h2 hpost
  obtain ⟨rfl, o2, w', w1, w2, hrs⟩ := hpost
  have hp2 := on_pt o2 hp
  have o3 := on_mo (L' := [175, 176, 177, 178, 179, 180]) o2 (by simp)
  have d2 : dst h2 n cl sd fx dr := by
    obtain ⟨d1, d2, d3, d4, d5⟩ := hd
    unfold dst
    rw [o2.2 175 (by decide)]
    exact ⟨d1, d2, d3, ar_on o2 (by decide) d4, ar_on o2 (by decide) d5⟩
  have r2 := rf_onr (onr_on o2) (a := a) (by rcases ha with ha | ha <;> simp <;> omega) hr
  have drop : tk (bl n) f N = none → ∀ v1 v2 v3 : Int32, tJ l g x Q 36 [some (.ref 175), some (.ref a), some (.int v1), some (.int v2), some (.int v3), none] [] 0 0 GS h2 := fun ht v1 v2 v3 => by
    obtain ⟨e1, e2, e3, e4, e5⟩ := d2
    refine ma_run0 po_Dec_take rfl rfl [15] 80 ?_
    simp only [pa_Dec_take, ma_go, ev_A, ev_B, ev_C, ev_D, Nat.reduceAdd, List.mem_cons, List.not_mem_nil, or_false, or_true, true_or, false_or, or_self, Nat.reduceEqDiff, reduceCtorEq, ↓reduceIte, List.length_cons, List.length_nil, Nat.reduceLT, Nat.reduceLeDiff, Nat.le_refl, implies_true, true_and, and_true, Option.toList, List.cons_append, List.nil_append, gs_175, e3]
    rw [nx_1, ← hQ]
    refine ⟨rfl, rfl, on_uI o3 _ _ (by simp), ⟨w', w1, bd_on (on_uI (on_rf h2 [175]) 7 _ (by simp)) (by decide) (by decide) w2⟩, Or.inl ⟨ht, ?_, ?_, uI_same _ _ _ _, fun k hk => ?_, fun k hk => ?_⟩⟩
    · rw [uI_ne (by omega)]; exact e1
    · rw [uI_ne (by omega)]; exact e2
    · rw [uI_ne (by omega)]; exact e4 k hk
    · rw [uI_ne (by omega)]; exact e5 k hk
  have at15 : ∀ (o : Option Nat) (u : Nat → Nat), wf u → bd h2 177 u → (∀ p, o = some p → p < 64) → ((o = none ∨ sp u 1 = none ∨ sp u 2 = none) → tk (bl n) f N = none) → (∀ p v1 v2, o = some p → sp u 1 = some v1 → sp u 2 = some v2 → tk (bl n) f N = some (p, u)) → tJ l g x Q 15 [some (.ref 175), some (.ref a), some (.int (oI o)), none, none, none] [] 0 0 GS h2 := by
    intro o u hu hbu ho hno hyes
    have q1 : ∀ v, sp u 1 = some v → v < 2 ^ 20 := fun v z => by have := (sp_lt z).1; omega
    have q2 : ∀ v, sp u 2 = some v → v < 2 ^ 20 := fun v z => by have := (sp_lt z).1; omega
    refine ma_run0 po_Dec_take rfl rfl [36, 43] 80 ?_
    simp only [pa_Dec_take, ma_go, ev_A, ev_B, ev_C, ev_D, Nat.reduceAdd, List.mem_cons, List.not_mem_nil, or_false, or_true, true_or, false_or, or_self, Nat.reduceEqDiff, reduceCtorEq, ↓reduceIte, List.length_cons, List.length_nil, Nat.reduceLT, Nat.reduceLeDiff, Nat.le_refl, implies_true, true_and, and_true, Option.toList, List.cons_append, List.nil_append, gs_175, gs_176, gs_177, pt_Dec hp2, pt_Rdr hp2]
    refine ma_callD mt_Bod_spelled rfl rfl (Nat.le_of_ble_eq_true rfl) (Nat.le_refl _) (Nat.le_refl _) (m_spelled l g x hp2 hu (Or.inr rfl) hbu.1 (by omega)) ?_
    simp only [pa_Dec_take, ma_go, ev_A, ev_B, ev_C, ev_D, Nat.reduceAdd, List.mem_cons, List.not_mem_nil, or_false, or_true, true_or, false_or, or_self, Nat.reduceEqDiff, reduceCtorEq, ↓reduceIte, List.length_cons, List.length_nil, Nat.reduceLT, Nat.reduceLeDiff, Nat.le_refl, implies_true, true_and, and_true, Option.toList, List.cons_append, List.nil_append, gs_175, gs_176, gs_177, pt_Dec hp2, pt_Rdr hp2]
    refine ma_callD mt_Bod_spelled rfl rfl (Nat.le_of_ble_eq_true rfl) (Nat.le_refl _) (Nat.le_refl _) (m_spelled l g x hp2 hu (Or.inr rfl) hbu.1 (by omega)) ?_
    simp only [pa_Dec_take, ma_go, ev_A, ev_B, ev_C, ev_D, Nat.reduceAdd, List.mem_cons, List.not_mem_nil, or_false, or_true, true_or, false_or, or_self, Nat.reduceEqDiff, reduceCtorEq, ↓reduceIte, List.length_cons, List.length_nil, Nat.reduceLT, Nat.reduceLeDiff, Nat.le_refl, implies_true, true_and, and_true, Option.toList, List.cons_append, List.nil_append, gs_175, gs_176, gs_177, pt_Dec hp2, pt_Rdr hp2]
    refine ⟨fun z => drop (hno (Or.inl (oI_no (fun v y => by have := ho v y; omega) z))) _ _ _, fun z1 => ⟨fun z => drop (hno (Or.inr (Or.inl (oI_no q1 z)))) _ _ _, fun z2 => ⟨fun z3 => ?_, fun z => drop (hno (Or.inr (Or.inr (oI_no q2 z)))) _ _ _⟩⟩⟩
    obtain ⟨p, rfl⟩ := oI_so z1
    obtain ⟨v1, e1⟩ := oI_so z2
    obtain ⟨v2, e2⟩ := oI_so z3
    have hp64 := ho p rfl
    have ht := hyes p v1 v2 rfl e1 e2
    obtain ⟨a1, a2, _⟩ := sp_lt e1
    obtain ⟨c1, c2, _⟩ := sp_lt e2
    rw [e1, e2, show oI (some p) = nI p from rfl, show oI (some v1) = nI v1 from rfl, show oI (some v2) = nI v2 from rfl]
    have go : ∀ y, y = (if N = 45 then 0 else 1) → tJ l g x Q 55 [some (.ref 175), some (.ref a), some (.int (nI p)), some (.int (nI v1)), some (.int (nI v2)), none] [] 0 0 GS (ma_uI h2 175 6 (nI (fx + y))) := fun y hy => by
      obtain ⟨e1, e2, e3, e4, e5⟩ := d2
      have o5 : on h2 (ma_uI h2 175 6 (nI (fx + y))) [175] := on_uI (on_rf h2 _) _ _ (by simp)
      refine tk_55 (on_pt o5 hp2) (n := n) (fx := fx + y) (dr := dr) (cl := cl) (sd := sd) (w := u) ⟨?_, uI_same _ _ _ _, ?_, ar_on o5 (by decide) e4, ar_on o5 (by decide) e5⟩ hp64 a2 c2 a1 c1 (fun F oF dF => ?_)
      · rw [uI_ne (by omega)]; exact e1
      · rw [uI_ne (by omega)]; exact e3
      · rw [← hQ]
        refine ⟨rfl, rfl, on_tr (on_tr o3 (on_mo o5 (by simp))) (on_mo oF (by simp)), ⟨u, hu, bd_on oF (by decide) (by decide) (bd_on o5 (by decide) (by decide) hbu)⟩, Or.inr ⟨p, u, ht, hp64, ?_⟩⟩
        rw [← hy]
        exact dF
    refine ma_run0 po_Dec_take rfl rfl [55] 80 ?_
    simp only [pa_Dec_take, ma_go, ev_A, ev_B, ev_C, ev_D, Nat.reduceAdd, List.mem_cons, List.not_mem_nil, or_false, or_true, true_or, false_or, or_self, Nat.reduceEqDiff, reduceCtorEq, ↓reduceIte, List.length_cons, List.length_nil, Nat.reduceLT, Nat.reduceLeDiff, Nat.le_refl, implies_true, true_and, and_true, Option.toList, List.cons_append, List.nil_append, gs_175, gs_row ha, r2.1, d2.2.1]
    simp only [nI_add]
    refine ⟨fun z => go 1 ?_, fun z => go 0 ?_⟩
    · rw [if_neg (fun y => z (by rw [y]))]
    · rw [if_pos ((nI_eq (by omega) (by omega)).mp z)]
  rcases hrs with ⟨rfl, w, hw1, hw2⟩ | ⟨rfl, hw1⟩
  · have ww := wf_congr hw2 w1
    have wb := bd_congr hw2 w2
    have htk : tk (bl n) f N = (match so (bl n) (sp w 0), sp w 1, sp w 2 with
      | some p, some _, some _ => some (p, w)
      | _, _, _ => none) := by
      unfold tk
      rw [hw1]
      show (match sl (bl n) w with | some p => some (p, w) | none => none) = _
      rw [sl_sp]
      cases so (bl n) (sp w 0) <;> cases sp w 1 <;> cases sp w 2 <;> rfl
    simp only [pa_Dec_take, ma_go, ev_A, ev_B, ev_C, ev_D, Nat.reduceAdd, List.mem_cons, List.not_mem_nil, or_false, or_true, true_or, false_or, or_self, Nat.reduceEqDiff, reduceCtorEq, ↓reduceIte, List.length_cons, List.length_nil, Nat.reduceLT, Nat.reduceLeDiff, Nat.le_refl, implies_true, true_and, and_true, Option.toList, List.cons_append, List.nil_append, gs_175, gs_176, gs_177, pt_Dec hp2, pt_Rdr hp2]
    refine ⟨fun q => absurd q (by decide +kernel), fun _ => ?_⟩
    refine ma_callD mt_Bod_spelled rfl rfl (Nat.le_of_ble_eq_true rfl) (Nat.le_refl _) (Nat.le_refl _) (m_spelled l g x hp2 ww (Or.inr rfl) wb.1 (by omega)) ?_
    simp only [pa_Dec_take, ma_go, ev_A, ev_B, ev_C, ev_D, Nat.reduceAdd, List.mem_cons, List.not_mem_nil, or_false, or_true, true_or, false_or, or_self, Nat.reduceEqDiff, reduceCtorEq, ↓reduceIte, List.length_cons, List.length_nil, Nat.reduceLT, Nat.reduceLeDiff, Nat.le_refl, implies_true, true_and, and_true, Option.toList, List.cons_append, List.nil_append, gs_175]
    refine ma_callD mt_Dec_slotOf rfl rfl (Nat.le_of_ble_eq_true rfl) (Nat.le_refl _) (Nat.le_refl _) (m_slotOf l g x hn d2.1 (fun v z => (sp_lt z).1)) ?_
    simp only [pa_Dec_take, ma_go, ev_A, ev_B, ev_C, ev_D, Nat.reduceAdd, List.mem_cons, List.not_mem_nil, or_false, or_true, true_or, false_or, or_self, Nat.reduceEqDiff, reduceCtorEq, ↓reduceIte, List.length_cons, List.length_nil, Nat.reduceLT, Nat.reduceLeDiff, Nat.le_refl, implies_true, true_and, and_true, Option.toList, List.cons_append, List.nil_append, gs_175]
    refine at15 _ w ww wb (fun p z => so_lt hbn z) (fun z => ?_) (fun p v1 v2 z1 z2 z3 => ?_)
    · rw [htk]
      rcases z with z | z | z
      · rw [z]
      · rw [z]; cases so (bl n) (sp w 0) <;> rfl
      · rw [z]; cases so (bl n) (sp w 0) <;> cases sp w 1 <;> rfl
    · rw [htk, z1, z2, z3]
  · have htk : tk (bl n) f N = none := by unfold tk; rw [hw1]
    simp only [pa_Dec_take, ma_go, ev_A, ev_B, ev_C, ev_D, Nat.reduceAdd, List.mem_cons, List.not_mem_nil, or_false, or_true, true_or, false_or, or_self, Nat.reduceEqDiff, reduceCtorEq, ↓reduceIte, List.length_cons, List.length_nil, Nat.reduceLT, Nat.reduceLeDiff, Nat.le_refl, implies_true, true_and, and_true, Option.toList, List.cons_append, List.nil_append, gs_175, gs_176, gs_177, pt_Dec hp2, pt_Rdr hp2]
    refine ⟨fun _ => at15 none w' w1 w2 (fun p z => by cases z) (fun _ => htk) (fun p v1 v2 z => by cases z), fun q => absurd trivial q⟩
