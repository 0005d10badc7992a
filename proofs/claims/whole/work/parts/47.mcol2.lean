/-! the class's Decoding.mendColumn: what it writes -/
theorem ht_eq {cl sd w : Nat → Nat} {b c s : Nat} (h1 : cl (16 * b + s) = 1) : ht cl sd w b c s = !(w s == sd (4 * (16 * b + s) + c)) := by
  unfold ht co
  rw [if_pos h1, h1]
  rfl
def tR (R : Nat → Bool) (H : Nat → Bool) (s : Nat) : Nat → Bool := fun t => R t || (decide (t < s) && H t)
theorem tR_no {R H : Nat → Bool} {s : Nat} (h : H s = false) : bz (tR R H s) 16 = bz (tR R H (s + 1)) 16 := by
  refine bz_congr (fun t _ => ?_)
  unfold tR
  by_cases e : t = s
  · rw [e, h]; simp
  · rw [show decide (t < s + 1) = decide (t < s) by simp; omega]
theorem tR_yes {R H : Nat → Bool} {s : Nat} (hs : s < 16) (h : H s = true) : bz (tR R H s) 16 ||| 2 ^ s = bz (tR R H (s + 1)) 16 := by
  rw [bz_or _ hs]
  refine bz_congr (fun t _ => ?_)
  unfold tR
  by_cases e : t = s
  · rw [e, h]; simp
  · rw [show decide (t < s + 1) = decide (t < s) by simp; omega, beq_eq_false_iff_ne.mpr e, Bool.or_false]
theorem cw_s {b c s : Nat} {w : Nat → Nat} {o : Nat → Int32} {H : Nat → Int32} (hc : c < 4) (hs : s < 10) (hH : ∀ k, H k = cw b c s w o k) (k : Nat) : (if k = 40 * b + 4 * s + c then nI (w s) else H k) = cw b c (s + 1) w o k := by
  unfold cw at hH ⊢
  by_cases e : k = 40 * b + 4 * s + c
  · rw [if_pos e, if_pos (by omega), show (k - 40 * b) / 4 = s by omega]
  · rw [if_neg e, hH k]
    by_cases q : 40 * b ≤ k ∧ k < 40 * b + 40 ∧ (k - 40 * b) % 4 = c ∧ (k - 40 * b) / 4 < s
    · rw [if_pos q, if_pos (by omega)]
    · rw [if_neg q, if_neg (by omega)]
theorem cw_e {b c s : Nat} {w : Nat → Nat} {o : Nat → Int32} (hs : 10 ≤ s) (k : Nat) : cw b c s w o k = cw b c (s + 1) w o k := by
  unfold cw
  by_cases q : 40 * b ≤ k ∧ k < 40 * b + 40 ∧ (k - 40 * b) % 4 = c ∧ (k - 40 * b) / 4 < s
  · rw [if_pos q, if_pos (by omega)]
  · rw [if_neg q, if_neg (by omega)]
section
variable {l : Launch} {g : ma_G} {x : Bool} {Q : ma_P} {n fx dr b c : Nat} {cl sd w : Nat → Nat} {R : Nat → Bool}
theorem mk_put {h0 : ma_H} (hp : pt_ok h0) (hb : b < 4) (hc : c < 4) (hcl : ∀ k, k < 64 → cl k < 1000) (hsd : ∀ s, s < 16 → cl (16 * b + s) = 1 → sd (4 * (16 * b + s) + c) < 256) (hw : ∀ s, s < 16 → w s < 256) (ha : ar h0 164 16 w)
    (hK : ∀ h, on h0 h [175, 181] → dst h n cl sd fx dr → h.1 175 4 = nI (bz (tR R (ht cl sd w b c) 16) 16) → (∀ k, h.1 181 k = cw b c 16 w (h0.1 181) k) → Q (some (.int (nI 1))) GS h) :
    ∀ m s h, s + m = 16 → on h0 h [175, 181] → dst h n cl sd fx dr → h.1 175 4 = nI (bz (tR R (ht cl sd w b c) s) 16) → (∀ k, h.1 181 k = cw b c s w (h0.1 181) k) → kJ l g x Q 42 [some (.ref 175), some (.int (nI b)), some (.int (nI c)), some (.int (nI s)), none] [] 0 0 GS h := by
  intro m
  induction m with
  | zero =>
    intro s h hs ho hd h4 h8
    have e : s = 16 := by omega
    subst e
    refine ma_run0 po_Dec_mendColumn rfl rfl [42, 79] 80 ?_
    simp only [pa_Dec_mendColumn, ma_go, ev_A, ev_B, ev_C, ev_D, Nat.reduceAdd, List.mem_cons, List.not_mem_nil, or_false, or_true, true_or, false_or, or_self, Nat.reduceEqDiff, reduceCtorEq, ↓reduceIte, List.length_cons, List.length_nil, Nat.reduceLT, Nat.reduceLeDiff, Nat.le_refl, implies_true, true_and, and_true, Option.toList, List.cons_append, List.nil_append]
    exact ⟨fun _ => hK h ho hd h4 h8, fun q => absurd (nI_le (Nat.le_refl _) (by omega)) q⟩
  | succ m ih =>
    intro s h hs ho hd h4 h8
    have hp' := on_pt ho hp
    have c1 := hcl (16 * b + s) (by omega)
    have v1 := hd.2.2.2.1 (16 * b + s) (by omega)
    have v2 := hd.2.2.2.2 (4 * (16 * b + s) + c) (by omega)
    have v3 : h.1 164 s = nI (w s) := by rw [ho.2 164 (by decide)]; exact ha s (by omega)
    have l3 := hw s (by omega)
    have t1 := ma_in_of (i := 16 * b + s) gs_179 (by omega) (by decide)
    have t2 := ma_in_of (i := 4 * (16 * b + s) + c) gs_180 (by omega) (by decide)
    have t3 := ma_in_of (i := s) gs_164 (by omega) (by decide)
    have aft : ∀ h2, on h h2 [175] → dst h2 n cl sd fx dr → h2.1 175 4 = nI (bz (tR R (ht cl sd w b c) (s + 1)) 16) → kJ l g x Q 79 [some (.ref 175), some (.int (nI b)), some (.int (nI c)), some (.int (nI s)), some (.int (nI (16 * b + s)))] [] 0 0 GS h2 := by
      intro h2 o2 d2 a2
      have o3 := on_tr ho (on_mo (L' := [175, 181]) o2 (by simp))
      have hp2 := on_pt o3 hp
      have w3 : h2.1 164 s = nI (w s) := by rw [o2.2 164 (by decide)]; exact v3
      have e8 : ∀ k, h2.1 181 k = cw b c s w (h0.1 181) k := fun k => by rw [o2.2 181 (by decide)]; exact h8 k
      refine ma_run0 po_Dec_mendColumn rfl rfl [42] 80 ?_
      simp only [pa_Dec_mendColumn, ma_go, ev_A, ev_B, ev_C, ev_D, Nat.reduceAdd, List.mem_cons, List.not_mem_nil, or_false, or_true, true_or, false_or, or_self, Nat.reduceEqDiff, reduceCtorEq, ↓reduceIte, List.length_cons, List.length_nil, Nat.reduceLT, Nat.reduceLeDiff, Nat.le_refl, implies_true, true_and, and_true, Option.toList, List.cons_append, List.nil_append, gs_175, gs_163, pt_Dec hp2, pt_Col hp2]
      rw [nx_1]
      refine ⟨fun q => ?_, fun q => ?_⟩
      · have s10 := (nI_leI (by omega) (by omega)).mp q
        exact ma_J.less (ih (s + 1) h2 (by omega) o3 d2 a2 (fun k => by rw [e8 k, cw_e s10])) ⟨rfl, rfl, rfl, rfl, trivial⟩
      · have s10 : s < 10 := Nat.lt_of_not_le (fun z => q (nI_le z (by omega)))
        rw [Int32.mul_comm (nI b), pk_mul, Int32.mul_comm (nI s), pk_mul, nI_add, nI_add, nI_clamp (n := s) (by omega), w3, nI_clamp (n := 40 * b + 4 * s + c) (by omega)]
        have o4 : on h2 (ma_uI h2 181 (40 * b + 4 * s + c) (nI (w s))) [181] := on_uI (on_rf h2 _) _ _ (by simp)
        refine ⟨t3, ma_in_of gs_181 (by omega) (by decide), ma_J.less (ih (s + 1) _ (by omega) (on_tr o3 (on_mo o4 (by simp))) (dst_on o4 (by decide) (by decide) (by decide) d2) (by rw [o4.2 175 (by decide)]; exact a2) (fun k => ?_)) ⟨rfl, rfl, rfl, rfl, trivial⟩⟩
        rw [← cw_s hc s10 e8 k]
        by_cases e : k = 40 * b + 4 * s + c
        · rw [if_pos e, e, uI_same]
        · rw [if_neg e, uI_ne (by omega)]
    refine ma_run0 po_Dec_mendColumn rfl rfl [42, 79] 80 ?_
    simp only [pa_Dec_mendColumn, ma_go, ev_A, ev_B, ev_C, ev_D, Nat.reduceAdd, List.mem_cons, List.not_mem_nil, or_false, or_true, true_or, false_or, or_self, Nat.reduceEqDiff, reduceCtorEq, ↓reduceIte, List.length_cons, List.length_nil, Nat.reduceLT, Nat.reduceLeDiff, Nat.le_refl, implies_true, true_and, and_true, Option.toList, List.cons_append, List.nil_append, gs_175, gs_163, pt_Dec hp', pt_Col hp']
    rw [Int32.mul_comm (nI b), pk_mul, nI_add, nI_clamp (n := 16 * b + s) (by omega), v1, Int32.mul_comm (nI (16 * b + s)), pk_mul, nI_add, nI_clamp (n := 4 * (16 * b + s) + c) (by omega), v2, nI_clamp (n := s) (by omega), v3, h4]
    rw [nx_shl1 (by omega), nx_or]
    refine ⟨fun q => absurd q (nI_ge (by omega) (by omega)), fun _ => ⟨t1, fun q => ?_, fun q => ⟨t3, t2, fun q2 => ?_, fun q2 => ?_⟩⟩⟩
    · refine aft h (on_rf h _) hd ?_
      rw [← tR_no]
      · exact h4
      · unfold ht
        rw [show (cl (16 * b + s) == 1) = false from beq_eq_false_iff_ne.mpr (fun z => q (by rw [z]))]
        rfl
    · have e1 := (nI_eq (by omega) (by omega)).mp q
      have l4 := hsd s (by omega) e1
      have e2 := (nI_eq (by omega) (by omega)).mp q2
      refine aft h (on_rf h _) hd ?_
      rw [← tR_no]
      · exact h4
      · rw [ht_eq e1, e2]
        simp
    · have e1 := (nI_eq (by omega) (by omega)).mp q
      refine aft _ (on_uI (on_rf h _) _ _ (by simp)) (dst_4 _ hd) ?_
      rw [uI_same, tR_yes (by omega)]
      rw [ht_eq e1, show (w s == sd (4 * (16 * b + s) + c)) = false from beq_eq_false_iff_ne.mpr (fun z => q2 (by rw [z]))]
      rfl
end
theorem m_mendColumn (l : Launch) (g : ma_G) (x : Bool) {h : ma_H} (hp : pt_ok h) (hf : fd_ok h) {n fx dr b c : Nat} {cl sd : Nat → Nat} {R : Nat → Bool} (hb : b < 4) (hc : c < 4) (hcl : ∀ k, k < 64 → cl k < 1000) (hsd : ∀ s, s < 16 → cl (16 * b + s) = 1 → sd (4 * (16 * b + s) + c) < 256) (hd : dst h n cl sd fx dr) (h4 : h.1 175 4 = nI (bz R 16)) : ma_PM l g x me_Dec_mendColumn [.ref 175, .int (nI b), .int (nI c)] GS h (fun v S' h' => S' = GS ∧ on h h' [164, 165, 166, 167, 168, 169, 170, 171, 175, 181] ∧ dst h' n cl sd fx dr ∧ ((v = some (.int (nI 1)) ∧ ∃ w, gf_md (co cl sd b c) (gn cl b) w ∧ h'.1 175 4 = nI (bz (tR R (ht cl sd w b c) 16) 16) ∧ ∀ k, h'.1 181 k = cw b c 16 w (h.1 181) k) ∨ (v = some (.int (nI 0)) ∧ (∀ w, ¬ gf_md (co cl sd b c) (gn cl b) w) ∧ h'.1 181 = h.1 181))) := by
  refine ma_PM_of (P := pr_Dec_mendColumn) (by decide) rfl (Nat.le_of_ble_eq_true rfl) ?_
  show ma_J l g x none me_Dec_mendColumn pr_Dec_mendColumn _ 0 [some (.ref 175), some (.int (nI b)), some (.int (nI c)), none, none] [] 0 0 GS h
  generalize hQ : (fun (v : Option Value) (S' : ma_S) (h' : ma_H) => S' = GS ∧ on h h' [164, 165, 166, 167, 168, 169, 170, 171, 175, 181] ∧ dst h' n cl sd fx dr ∧ ((v = some (.int (nI 1)) ∧ ∃ w, gf_md (co cl sd b c) (gn cl b) w ∧ h'.1 175 4 = nI (bz (tR R (ht cl sd w b c) 16) 16) ∧ ∀ k, h'.1 181 k = cw b c 16 w (h.1 181) k) ∨ (v = some (.int (nI 0)) ∧ (∀ w, ¬ gf_md (co cl sd b c) (gn cl b) w) ∧ h'.1 181 = h.1 181))) = Q
  have hco : ∀ s, s < 16 → co cl sd b c s < 256 := fun s hs => by
    unfold co
    by_cases e : cl (16 * b + s) = 1
    · rw [if_pos e]; exact hsd s hs e
    · rw [if_neg e]; decide
  refine ma_run0 po_Dec_mendColumn rfl rfl [2] 80 ?_
  simp only [pa_Dec_mendColumn, ma_go, ev_A, ev_B, ev_C, ev_D, Nat.reduceAdd, List.mem_cons, List.not_mem_nil, or_false, or_true, true_or, false_or, or_self, Nat.reduceEqDiff, reduceCtorEq, ↓reduceIte, List.length_cons, List.length_nil, Nat.reduceLT, Nat.reduceLeDiff, Nat.le_refl, implies_true, true_and, and_true, Option.toList, List.cons_append, List.nil_append]
  refine mk_set hp hb hc hcl hd (fun h2 o2 a2 z2 => ?_) 16 0 h (by omega) (on_rf h _) (fun k hk => by omega) (fun k hk => by omega)
  have hp2 := on_pt o2 hp
  have d2 := dst_on o2 (by decide) (by decide) (by decide) hd
  refine ma_run0 po_Dec_mendColumn rfl rfl [42] 80 ?_
  simp only [pa_Dec_mendColumn, ma_go, ev_A, ev_B, ev_C, ev_D, Nat.reduceAdd, List.mem_cons, List.not_mem_nil, or_false, or_true, true_or, false_or, or_self, Nat.reduceEqDiff, reduceCtorEq, ↓reduceIte, List.length_cons, List.length_nil, Nat.reduceLT, Nat.reduceLeDiff, Nat.le_refl, implies_true, true_and, and_true, Option.toList, List.cons_append, List.nil_append, gs_175, gs_163, pt_Dec hp2]
  refine ma_callP mt_Col_mend rfl rfl (Nat.le_of_ble_eq_true rfl) (Nat.le_refl _) (Nat.le_refl _) (m_mend l g x hp2 (fd_on o2 (by decide) (by decide) hf) z2 hco a2) ?_
  intro v S' h3 hpost
  obtain ⟨rfl, o3, hh⟩ := hpost
  have o4 := on_tr (on_mo (L' := [164, 165, 166, 167, 168, 169, 170, 171, 175, 181]) o2 (by simp)) (on_mo (L' := [164, 165, 166, 167, 168, 169, 170, 171, 175, 181]) o3 (by simp))
  have d3 := dst_on o3 (by decide) (by decide) (by decide) d2
  have e8 : h3.1 181 = h.1 181 := by rw [o3.2 181 (by decide), o2.2 181 (by decide)]
  have e4 : h3.1 175 4 = nI (bz R 16) := by rw [o3.2 175 (by decide), o2.2 175 (by decide)]; exact h4
  rcases hh with ⟨rfl, w, hw1, hw2⟩ | ⟨rfl, hw1⟩
  · simp only [pa_Dec_mendColumn, ma_go, ev_A, ev_B, ev_C, ev_D, Nat.reduceAdd, List.mem_cons, List.not_mem_nil, or_false, or_true, true_or, false_or, or_self, Nat.reduceEqDiff, reduceCtorEq, ↓reduceIte, List.length_cons, List.length_nil, Nat.reduceLT, Nat.reduceLeDiff, Nat.le_refl, implies_true, true_and, and_true, Option.toList, List.cons_append, List.nil_append]
    refine ⟨fun _ => ?_, fun q => absurd q (by decide +kernel)⟩
    refine mk_put (w := w) (R := R) (on_pt o4 hp) hb hc hcl hsd hw1.1 hw2 (fun h5 o5 d5 a5 b5 => ?_) 16 0 h3 (by omega) (on_rf h3 _) d3 ?_ (fun k => ?_)
    · rw [← hQ]
      exact ⟨rfl, on_tr o4 (on_mo o5 (by simp)), d5, Or.inl ⟨rfl, w, hw1, a5, fun k => by rw [b5 k, e8]⟩⟩
    · rw [e4]
      congr 1
      exact bz_congr (fun t _ => by unfold tR; simp)
    · unfold cw
      rw [if_neg (by omega)]
  · simp only [pa_Dec_mendColumn, ma_go, ev_A, ev_B, ev_C, ev_D, Nat.reduceAdd, List.mem_cons, List.not_mem_nil, or_false, or_true, true_or, false_or, or_self, Nat.reduceEqDiff, reduceCtorEq, ↓reduceIte, List.length_cons, List.length_nil, Nat.reduceLT, Nat.reduceLeDiff, Nat.le_refl, implies_true, true_and, and_true, Option.toList, List.cons_append, List.nil_append]
    refine ⟨fun q => absurd trivial q, fun _ => ?_⟩
    rw [← hQ]
    exact ⟨rfl, o4, d3, Or.inr ⟨rfl, hw1, e8⟩⟩
