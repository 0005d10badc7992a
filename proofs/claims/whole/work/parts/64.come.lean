/-! the reference's letter, come, read, readCut, readGrown, forge -/
abbrev cJ (l : Launch) (g : ma_G) (x : Bool) (Q : ma_P) : ma_K := ma_J l g x none me_Mod_come pr_Mod_come Q
/-- a read is added to the reference's heap -/
def ad (h h' : ma_H) (R n : Nat) (f : Nat → Nat) : Prop := on h h' [184, 187, 188] ∧ h'.1 184 4 = nI (R + 1) ∧ (∀ k, k ≠ 4 → h'.1 184 k = h.1 184 k) ∧ h'.1 188 R = nI n ∧ (∀ k, k ≠ R → h'.1 188 k = h.1 188 k) ∧ wt (h.1 187) (h'.1 187) (60 * R) n f
section
variable {l : Launch} {g : ma_G} {x : Bool} {Q : ma_P}
theorem ce_all {h0 : ma_H} (hp : pt_ok h0) {R t c : Nat} {A Z : Int32} {f T pos : Nat → Nat} (hR : R < 90) (ht : t < 64) (e4 : h0.1 184 4 = nI R) (hT : ∀ k, k < 45 → T k < 4 ∧ h0.1 186 (45 * t + k) = nI (T k)) (hc : c < 4) (hpos : ∀ k, k ≤ 45 → pos k ≤ 46)
    (hst : ∀ k, k < 45 → (nI k = A → f (pos k) = c) ∧ (¬ nI k = Z → f (pos k + (if nI k = A then 1 else 0)) = T k) ∧ pos (k + 1) = pos k + (if nI k = A then 1 else 0) + (if nI k = Z then 0 else 1))
    (hK : ∀ h, ad h0 h R (pos 45) f → Q (some (.int (nI 1))) GS h) :
    ∀ m k h, k + m = 45 → on h0 h [187] → wt (h0.1 187) (h.1 187) (60 * R) (pos k) f → cJ l g x Q 18 [some (.ref 184), some (.int (nI t)), some (.int Z), some (.int A), some (.int (nI c)), some (.int (nI (pos k))), some (.int (nI k))] [] 0 0 GS h := by
  intro m
  induction m with
  | zero =>
    intro k h hk ho hw
    have e : k = 45 := by omega
    subst e
    have hp' := on_pt ho hp
    have e4' : h.1 184 4 = nI R := by rw [ho.2 184 (by decide)]; exact e4
    refine ma_run0 po_Mod_come rfl rfl [18, 21] 80 ?_
    simp only [pa_Mod_come, ma_go, ev_A, ev_B, ev_C, ev_D, Nat.reduceAdd, List.mem_cons, List.not_mem_nil, or_false, or_true, true_or, false_or, or_self, Nat.reduceEqDiff, reduceCtorEq, ↓reduceIte, List.length_cons, List.length_nil, Nat.reduceLT, Nat.reduceLeDiff, Nat.le_refl, implies_true, true_and, and_true, Option.toList, List.cons_append, List.nil_append, gs_184, pt_Mod hp', e4']
    rw [nI_clamp (n := R) (by omega)]
    refine ⟨fun _ => ⟨ma_in_of gs_188 hR (by decide), ?_⟩, fun q => absurd (nI_le (Nat.le_refl _) (by omega)) q⟩
    have o1 : on h (ma_uI h 188 R (nI (pos 45))) [188] := on_uI (on_rf h _) _ _ (by simp)
    have e5 : (ma_uI h 188 R (nI (pos 45))).1 184 4 = nI R := by rw [o1.2 184 (by decide)]; exact e4'
    try rw [e5]
    rw [nx_1]
    have o2 : on (ma_uI h 188 R (nI (pos 45))) (ma_uI (ma_uI h 188 R (nI (pos 45))) 184 4 (nI (R + 1))) [184] := on_uI (on_rf _ _) _ _ (by simp)
    refine hK _ ⟨on_tr (on_mo ho (by simp)) (on_tr (on_mo o1 (by simp)) (on_mo o2 (by simp))), uI_same _ _ _ _, fun k hk => ?_, ?_, fun k hk => ?_, ?_⟩
    · rw [uI_ne (fun z => hk z.2), o1.2 184 (by decide), ho.2 184 (by decide)]
    · rw [o2.2 188 (by decide), uI_same]
    · rw [o2.2 188 (by decide), uI_ne (fun z => hk z.2), ho.2 188 (by decide)]
    · rw [o2.2 187 (by decide), o1.2 187 (by decide)]; exact hw
  | succ m ih =>
    intro k h hk ho hw
    have hp' := on_pt ho hp
    have e4' : h.1 184 4 = nI R := by rw [ho.2 184 (by decide)]; exact e4
    have pk := hpos k (by omega)
    have pk1 := hpos (k + 1) (by omega)
    obtain ⟨s1, s2, s3⟩ := hst k (by omega)
    obtain ⟨t4, tv⟩ := hT k (by omega)
    have aft : ∀ d H, on h0 H [187] → d = (if nI k = A then 1 else 0) → wt (h0.1 187) (H.1 187) (60 * R) (pos k + d) f → cJ l g x Q 36 [some (.ref 184), some (.int (nI t)), some (.int Z), some (.int A), some (.int (nI c)), some (.int (nI (pos k + d))), some (.int (nI k))] [] 0 0 GS H := by
      intro d H oH hd wH
      have hpH := on_pt oH hp
      have e4H : H.1 184 4 = nI R := by rw [oH.2 184 (by decide)]; exact e4
      have tH : H.1 186 (45 * t + k) = nI (T k) := by rw [oH.2 186 (by decide)]; exact tv
      rw [← hd] at s2 s3
      refine ma_run0 po_Mod_come rfl rfl [18] 80 ?_
      simp only [pa_Mod_come, ma_go, ev_A, ev_B, ev_C, ev_D, Nat.reduceAdd, List.mem_cons, List.not_mem_nil, or_false, or_true, true_or, false_or, or_self, Nat.reduceEqDiff, reduceCtorEq, ↓reduceIte, List.length_cons, List.length_nil, Nat.reduceLT, Nat.reduceLeDiff, Nat.le_refl, implies_true, true_and, and_true, Option.toList, List.cons_append, List.nil_append, gs_184, pt_Mod hpH, e4H]
      simp only [pk_mul, nI_add]
      refine ⟨fun q => ?_, fun q => ?_⟩
      · rw [if_neg q] at s3
        rw [nI_clamp (n := 45 * t + k) (by omega), tH, nI_clamp (n := 60 * R + (pos k + d)) (by omega)]
        have i2 := ih (k + 1) (ma_uI H 187 (60 * R + (pos k + d)) (vp_nar .byte (nI (T k)))) (by omega) (on_uI oH _ _ (by simp)) (by rw [s3]; exact wt_s (by rw [nb4' _ t4, s2 q]) wH)
        rw [s3] at i2
        exact ⟨ma_in_of gs_186 (by omega) (by decide), ma_in_of gs_187 (by omega) (by decide), i2⟩
      · rw [if_pos q] at s3
        have i2 := ih (k + 1) H (by omega) oH (by rw [s3]; exact wH)
        rw [s3] at i2
        exact i2
    refine ma_run0 po_Mod_come rfl rfl [18, 36, 60] 80 ?_
    simp only [pa_Mod_come, ma_go, ev_A, ev_B, ev_C, ev_D, Nat.reduceAdd, List.mem_cons, List.not_mem_nil, or_false, or_true, true_or, false_or, or_self, Nat.reduceEqDiff, reduceCtorEq, ↓reduceIte, List.length_cons, List.length_nil, Nat.reduceLT, Nat.reduceLeDiff, Nat.le_refl, implies_true, true_and, and_true, Option.toList, List.cons_append, List.nil_append, gs_184, pt_Mod hp', e4']
    simp only [pk_mul, nI_add]
    rw [nI_clamp (n := 60 * R + pos k) (by omega)]
    refine ⟨fun q => absurd q (nI_ge (by omega) (by omega)), fun _ => ⟨fun q => aft 0 h ho (if_neg q).symm hw, fun q => ⟨ma_in_of gs_187 (by omega) (by decide), aft 1 _ (on_uI ho _ _ (by simp)) (if_pos q).symm (wt_s (by rw [nb4 c hc, s1 q]) hw)⟩⟩⟩
end
section
variable (l : Launch) (g : ma_G) (x : Bool) {h : ma_H}
theorem iM {t : Int32} {W : Nat} (hW : W < 2 ^ 20) : (nI 0 ≤ t ∧ t ≤ nI W - nI 1) ↔ (nI 0 ≤ t ∧ t < nI W) := by
  have e : (nI W - nI 1).toInt = (W : Int) - 1 := by
    by_cases w : W = 0
    · subst w; decide +kernel
    · rw [nx_sub' (by omega), nI_toInt (by omega)]; omega
  rw [Int32.le_iff_toInt_le, Int32.le_iff_toInt_le, Int32.lt_iff_toInt_lt, e, nI_toInt (by omega), nI_toInt (by omega)]
  omega
theorem m_comeN {W R : Nat} (hW : W ≤ 64) (eW : h.1 184 2 = nI W) (hR : R ≤ 90) (eR : h.1 184 4 = nI R) {t Z A c : Int32} (hn : ¬ ((nI 0 ≤ t ∧ t < nI W) ∧ R < 90)) : ma_PM l g x me_Mod_come [.ref 184, .int t, .int Z, .int A, .int c] GS h (fun v S' h' => v = some (.int (nI 0)) ∧ S' = GS ∧ h' = h) := by
  refine ma_PM_of (P := pr_Mod_come) (by decide) rfl (Nat.le_of_ble_eq_true rfl) ?_
  show ma_J l g x none me_Mod_come pr_Mod_come _ 0 [some (.ref 184), some (.int t), some (.int Z), some (.int A), some (.int c), none, none] [] 0 0 GS h
  have no : cJ l g x (fun v S' h' => v = some (.int (nI 0)) ∧ S' = GS ∧ h' = h) 12 [some (.ref 184), some (.int t), some (.int Z), some (.int A), some (.int c), none, none] [] 0 0 GS h := by
    refine ma_run0 po_Mod_come rfl rfl [] 60 ?_
    simp only [pa_Mod_come, ma_go, ev_A, ev_B, ev_C, ev_D, Nat.reduceAdd, List.mem_cons, List.not_mem_nil, or_false, or_true, true_or, false_or, or_self, Nat.reduceEqDiff, reduceCtorEq, ↓reduceIte, List.length_cons, List.length_nil, Nat.reduceLT, Nat.reduceLeDiff, Nat.le_refl, implies_true, true_and, and_true, Option.toList, List.cons_append, List.nil_append]
  refine ma_run0 po_Mod_come rfl rfl [12, 14] 60 ?_
  simp only [pa_Mod_come, ma_go, ev_A, ev_B, ev_C, ev_D, Nat.reduceAdd, List.mem_cons, List.not_mem_nil, or_false, or_true, true_or, false_or, or_self, Nat.reduceEqDiff, reduceCtorEq, ↓reduceIte, List.length_cons, List.length_nil, Nat.reduceLT, Nat.reduceLeDiff, Nat.le_refl, implies_true, true_and, and_true, Option.toList, List.cons_append, List.nil_append, gs_184, eW]
  refine ma_callD mt_Mod_in rfl rfl (Nat.le_of_ble_eq_true rfl) (Nat.le_refl _) (Nat.le_refl _) (m_in l g x GS _ t (nI 0) (nI W - nI 1)) ?_
  simp only [pa_Mod_come, ma_go, ev_A, ev_B, ev_C, ev_D, Nat.reduceAdd, List.mem_cons, List.not_mem_nil, or_false, or_true, true_or, false_or, or_self, Nat.reduceEqDiff, reduceCtorEq, ↓reduceIte, List.length_cons, List.length_nil, Nat.reduceLT, Nat.reduceLeDiff, Nat.le_refl, implies_true, true_and, and_true, Option.toList, List.cons_append, List.nil_append, gs_184, eR]
  by_cases q : nI 0 ≤ t ∧ t < nI W
  · rw [show decide (nI 0 ≤ t ∧ t ≤ nI W - nI 1) = true from decide_eq_true ((iM (by omega)).mpr q)]
    exact ⟨fun _ => no, fun _ => ⟨fun z => absurd (by rw [show R = 90 from Nat.le_antisymm hR (Nat.le_of_not_lt (fun z => hn ⟨q, z⟩))]) z, fun _ => no⟩⟩
  · rw [show decide (nI 0 ≤ t ∧ t ≤ nI W - nI 1) = false from decide_eq_false (fun z => q ((iM (by omega)).mp z))]
    exact ⟨fun _ => no, fun z => absurd rfl z⟩
theorem m_come (hp : pt_ok h) {W R t c : Nat} {A Z : Int32} {f T pos : Nat → Nat} (hW : W ≤ 64) (eW : h.1 184 2 = nI W) (hR : R < 90) (eR : h.1 184 4 = nI R) (ht : t < W) (hT : ∀ k, k < 45 → T k < 4 ∧ h.1 186 (45 * t + k) = nI (T k)) (hc : c < 4) (hpos : ∀ k, k ≤ 45 → pos k ≤ 46) (h0 : pos 0 = 0)
    (hst : ∀ k, k < 45 → (nI k = A → f (pos k) = c) ∧ (¬ nI k = Z → f (pos k + (if nI k = A then 1 else 0)) = T k) ∧ pos (k + 1) = pos k + (if nI k = A then 1 else 0) + (if nI k = Z then 0 else 1)) : ma_PM l g x me_Mod_come [.ref 184, .int (nI t), .int Z, .int A, .int (nI c)] GS h (fun v S' h' => v = some (.int (nI 1)) ∧ S' = GS ∧ ad h h' R (pos 45) f) := by
  refine ma_PM_of (P := pr_Mod_come) (by decide) rfl (Nat.le_of_ble_eq_true rfl) ?_
  show ma_J l g x none me_Mod_come pr_Mod_come _ 0 [some (.ref 184), some (.int (nI t)), some (.int Z), some (.int A), some (.int (nI c)), none, none] [] 0 0 GS h
  refine ma_run0 po_Mod_come rfl rfl [12, 14] 60 ?_
  simp only [pa_Mod_come, ma_go, ev_A, ev_B, ev_C, ev_D, Nat.reduceAdd, List.mem_cons, List.not_mem_nil, or_false, or_true, true_or, false_or, or_self, Nat.reduceEqDiff, reduceCtorEq, ↓reduceIte, List.length_cons, List.length_nil, Nat.reduceLT, Nat.reduceLeDiff, Nat.le_refl, implies_true, true_and, and_true, Option.toList, List.cons_append, List.nil_append, gs_184, eW]
  refine ma_callD mt_Mod_in rfl rfl (Nat.le_of_ble_eq_true rfl) (Nat.le_refl _) (Nat.le_refl _) (m_in l g x GS _ (nI t) (nI 0) (nI W - nI 1)) ?_
  simp only [pa_Mod_come, ma_go, ev_A, ev_B, ev_C, ev_D, Nat.reduceAdd, List.mem_cons, List.not_mem_nil, or_false, or_true, true_or, false_or, or_self, Nat.reduceEqDiff, reduceCtorEq, ↓reduceIte, List.length_cons, List.length_nil, Nat.reduceLT, Nat.reduceLeDiff, Nat.le_refl, implies_true, true_and, and_true, Option.toList, List.cons_append, List.nil_append, gs_184, eR]
  rw [show decide (nI 0 ≤ nI t ∧ nI t ≤ nI W - nI 1) = true from decide_eq_true ((iM (by omega)).mpr ⟨nI_le (Nat.zero_le _) (by omega), nI_lt ht (by omega)⟩)]
  refine ⟨fun z => absurd z (by decide +kernel), fun _ => ⟨fun _ => ?_, fun q => absurd ((nI_eq (by omega) (by omega)).mp q) (by omega)⟩⟩
  refine ma_run0 po_Mod_come rfl rfl [18] 60 ?_
  simp only [pa_Mod_come, ma_go, ev_A, ev_B, ev_C, ev_D, Nat.reduceAdd, List.mem_cons, List.not_mem_nil, or_false, or_true, true_or, false_or, or_self, Nat.reduceEqDiff, reduceCtorEq, ↓reduceIte, List.length_cons, List.length_nil, Nat.reduceLT, Nat.reduceLeDiff, Nat.le_refl, implies_true, true_and, and_true, Option.toList, List.cons_append, List.nil_append]
  have t := ce_all (l := l) (g := g) (x := x) (Q := fun v S' h' => v = some (.int (nI 1)) ∧ S' = GS ∧ ad h h' R (pos 45) f) hp hR (show t < 64 by omega) eR hT hc hpos hst (fun h' had => ⟨rfl, rfl, had⟩) 45 0 h (by omega) (on_rf _ _) (by rw [h0]; exact wt_0 _ _ _)
  rw [h0] at t
  exact t
theorem ad_0 {h h' : ma_H} {R n : Nat} {f : Nat → Nat} (ha : ad (ma_uI h 184 0 (nI 0)) h' R n f) : on h h' [184, 187, 188] ∧ h'.1 184 4 = nI (R + 1) ∧ (∀ k, k ≠ 0 → k ≠ 4 → h'.1 184 k = h.1 184 k) ∧ h'.1 188 R = nI n ∧ (∀ k, k ≠ R → h'.1 188 k = h.1 188 k) ∧ wt (h.1 187) (h'.1 187) (60 * R) n f := by
  obtain ⟨a1, a2, a3, a4, a5, a6⟩ := ha
  have o1 : on h (ma_uI h 184 0 (nI 0)) [184] := on_uI (on_rf h _) _ _ (by simp)
  rw [o1.2 187 (by decide)] at a6
  refine ⟨on_tr (on_mo o1 (by simp)) a1, a2, fun k k0 k4 => ?_, a4, fun k hk => ?_, a6⟩
  · rw [a3 k k4, uI_ne (fun z => k0 z.2)]
  · rw [a5 k hk, o1.2 188 (by decide)]
def am (h h' : ma_H) (R n : Nat) (f : Nat → Nat) : Prop := on h h' [184, 187, 188] ∧ h'.1 184 4 = nI (R + 1) ∧ (∀ k, k ≠ 0 → k ≠ 4 → h'.1 184 k = h.1 184 k) ∧ h'.1 188 R = nI n ∧ (∀ k, k ≠ R → h'.1 188 k = h.1 188 k) ∧ wt (h.1 187) (h'.1 187) (60 * R) n f
theorem m_mreadN {W R : Nat} (hW : W ≤ 64) (eW : h.1 184 2 = nI W) (hR : R ≤ 90) (eR : h.1 184 4 = nI R) {t : Int32} (hn : ¬ ((nI 0 ≤ t ∧ t < nI W) ∧ R < 90)) : ma_PM l g x me_Mod_read [.ref 184, .int t] GS h (fun v S' h' => v = some (.int (nI 0)) ∧ S' = GS ∧ h' = ma_uI h 184 0 (nI 0)) := by
  refine ma_PM_of (P := pr_Mod_read) (by decide) rfl (Nat.le_of_ble_eq_true rfl) ?_
  show ma_J l g x none me_Mod_read pr_Mod_read _ 0 [some (.ref 184), some (.int t)] [] 0 0 GS h
  refine ma_run0 po_Mod_read rfl rfl [] 60 ?_
  simp only [pa_Mod_read, ma_go, ev_A, ev_B, ev_C, ev_D, Nat.reduceAdd, List.mem_cons, List.not_mem_nil, or_false, or_true, true_or, false_or, or_self, Nat.reduceEqDiff, reduceCtorEq, ↓reduceIte, List.length_cons, List.length_nil, Nat.reduceLT, Nat.reduceLeDiff, Nat.le_refl, implies_true, true_and, and_true, Option.toList, List.cons_append, List.nil_append, gs_184]
  refine ma_callD mt_Mod_come rfl rfl (Nat.le_of_ble_eq_true rfl) (Nat.le_refl _) (Nat.le_refl _) (m_comeN l g x hW (by rw [uI_ne (by omega)]; exact eW) hR (by rw [uI_ne (by omega)]; exact eR) hn) ?_
  simp only [pa_Mod_read, ma_go, ev_A, ev_B, ev_C, ev_D, Nat.reduceAdd, List.mem_cons, List.not_mem_nil, or_false, or_true, true_or, false_or, or_self, Nat.reduceEqDiff, reduceCtorEq, ↓reduceIte, List.length_cons, List.length_nil, Nat.reduceLT, Nat.reduceLeDiff, Nat.le_refl, implies_true, true_and, and_true, Option.toList, List.cons_append, List.nil_append]
theorem neg1 : ∀ k, k < 46 → ¬ nI k = -1 := by decide +kernel
theorem m_mread (hp : pt_ok h) {W R t : Nat} {T : Nat → Nat} (hW : W ≤ 64) (eW : h.1 184 2 = nI W) (hR : R < 90) (eR : h.1 184 4 = nI R) (ht : t < W) (hT : ∀ k, k < 45 → T k < 4 ∧ h.1 186 (45 * t + k) = nI (T k)) : ma_PM l g x me_Mod_read [.ref 184, .int (nI t)] GS h (fun v S' h' => v = some (.int (nI 1)) ∧ S' = GS ∧ am h h' R 45 T) := by
  refine ma_PM_of (P := pr_Mod_read) (by decide) rfl (Nat.le_of_ble_eq_true rfl) ?_
  show ma_J l g x none me_Mod_read pr_Mod_read _ 0 [some (.ref 184), some (.int (nI t))] [] 0 0 GS h
  have o1 : on h (ma_uI h 184 0 (nI 0)) [184] := on_uI (on_rf h _) _ _ (by simp)
  refine ma_run0 po_Mod_read rfl rfl [] 60 ?_
  simp only [pa_Mod_read, ma_go, ev_A, ev_B, ev_C, ev_D, Nat.reduceAdd, List.mem_cons, List.not_mem_nil, or_false, or_true, true_or, false_or, or_self, Nat.reduceEqDiff, reduceCtorEq, ↓reduceIte, List.length_cons, List.length_nil, Nat.reduceLT, Nat.reduceLeDiff, Nat.le_refl, implies_true, true_and, and_true, Option.toList, List.cons_append, List.nil_append, gs_184]
  refine ma_callP mt_Mod_come rfl rfl (Nat.le_of_ble_eq_true rfl) (Nat.le_refl _) (Nat.le_refl _) (m_come l g x (on_pt o1 hp) hW (by rw [uI_ne (by omega)]; exact eW) hR (by rw [uI_ne (by omega)]; exact eR) ht (T := T) (f := T) (pos := fun k => k) (fun k hk => by rw [o1.2 186 (by decide)]; exact hT k hk) (by decide) (fun k hk => by show k ≤ 46; omega) rfl (fun k hk => ⟨fun q => absurd q (neg1 k (by omega)), fun _ => by rw [if_neg (neg1 k (by omega))]; rfl, by rw [if_neg (neg1 k (by omega)), if_neg (neg1 k (by omega))]⟩)) ?_
  intro v S' h2 hpost
  obtain ⟨rfl, rfl, ha⟩ := hpost
  simp only [pa_Mod_read, ma_go, ev_A, ev_B, ev_C, ev_D, Nat.reduceAdd, List.mem_cons, List.not_mem_nil, or_false, or_true, true_or, false_or, or_self, Nat.reduceEqDiff, reduceCtorEq, ↓reduceIte, List.length_cons, List.length_nil, Nat.reduceLT, Nat.reduceLeDiff, Nat.le_refl, implies_true, true_and, and_true, Option.toList, List.cons_append, List.nil_append]
  exact ad_0 ha
theorem m_mreadCutN {W R : Nat} (hW : W ≤ 64) (eW : h.1 184 2 = nI W) (hR : R ≤ 90) (eR : h.1 184 4 = nI R) {t i : Int32} (hn : ¬ ((nI 0 ≤ t ∧ t < nI W) ∧ R < 90 ∧ nI 0 ≤ i ∧ i ≤ nI 32)) : ma_PM l g x me_Mod_readCut [.ref 184, .int t, .int i] GS h (fun v S' h' => v = some (.int (nI 0)) ∧ S' = GS ∧ h' = ma_uI h 184 0 (nI 0)) := by
  refine ma_PM_of (P := pr_Mod_readCut) (by decide) rfl (Nat.le_of_ble_eq_true rfl) ?_
  show ma_J l g x none me_Mod_readCut pr_Mod_readCut _ 0 [some (.ref 184), some (.int t), some (.int i)] [] 0 0 GS h
  refine ma_run0 po_Mod_readCut rfl rfl [] 60 ?_
  simp only [pa_Mod_readCut, ma_go, ev_A, ev_B, ev_C, ev_D, Nat.reduceAdd, List.mem_cons, List.not_mem_nil, or_false, or_true, true_or, false_or, or_self, Nat.reduceEqDiff, reduceCtorEq, ↓reduceIte, List.length_cons, List.length_nil, Nat.reduceLT, Nat.reduceLeDiff, Nat.le_refl, implies_true, true_and, and_true, Option.toList, List.cons_append, List.nil_append, gs_184]
  refine ma_callD mt_Mod_in rfl rfl (Nat.le_of_ble_eq_true rfl) (Nat.le_refl _) (Nat.le_refl _) (m_in l g x GS _ i (nI 0) (nI 32)) ?_
  simp only [pa_Mod_readCut, ma_go, ev_A, ev_B, ev_C, ev_D, Nat.reduceAdd, List.mem_cons, List.not_mem_nil, or_false, or_true, true_or, false_or, or_self, Nat.reduceEqDiff, reduceCtorEq, ↓reduceIte, List.length_cons, List.length_nil, Nat.reduceLT, Nat.reduceLeDiff, Nat.le_refl, implies_true, true_and, and_true, Option.toList, List.cons_append, List.nil_append, gs_184]
  by_cases q : nI 0 ≤ i ∧ i ≤ nI 32
  · rw [show decide (nI 0 ≤ i ∧ i ≤ nI 32) = true from decide_eq_true q]
    refine fun _ => ?_
    refine ma_callD mt_Mod_come rfl rfl (Nat.le_of_ble_eq_true rfl) (Nat.le_refl _) (Nat.le_refl _) (m_comeN l g x hW (by rw [uI_ne (by omega)]; exact eW) hR (by rw [uI_ne (by omega)]; exact eR) (fun z => hn ⟨z.1, z.2, q⟩)) ?_
    simp only [pa_Mod_readCut, ma_go, ev_A, ev_B, ev_C, ev_D, Nat.reduceAdd, List.mem_cons, List.not_mem_nil, or_false, or_true, true_or, false_or, or_self, Nat.reduceEqDiff, reduceCtorEq, ↓reduceIte, List.length_cons, List.length_nil, Nat.reduceLT, Nat.reduceLeDiff, Nat.le_refl, implies_true, true_and, and_true, Option.toList, List.cons_append, List.nil_append]
    simp
  · rw [show decide (nI 0 ≤ i ∧ i ≤ nI 32) = false from decide_eq_false q]
    exact fun z => absurd rfl z
theorem m_mreadCut (hp : pt_ok h) {W R t i : Nat} {T : Nat → Nat} (hW : W ≤ 64) (eW : h.1 184 2 = nI W) (hR : R < 90) (eR : h.1 184 4 = nI R) (ht : t < W) (hi : i < 33) (hT : ∀ k, k < 45 → T k < 4 ∧ h.1 186 (45 * t + k) = nI (T k)) : ma_PM l g x me_Mod_readCut [.ref 184, .int (nI t), .int (nI i)] GS h (fun v S' h' => v = some (.int (nI 1)) ∧ S' = GS ∧ am h h' R 44 (fct T i)) := by
  refine ma_PM_of (P := pr_Mod_readCut) (by decide) rfl (Nat.le_of_ble_eq_true rfl) ?_
  show ma_J l g x none me_Mod_readCut pr_Mod_readCut _ 0 [some (.ref 184), some (.int (nI t)), some (.int (nI i))] [] 0 0 GS h
  have o1 : on h (ma_uI h 184 0 (nI 0)) [184] := on_uI (on_rf h _) _ _ (by simp)
  refine ma_run0 po_Mod_readCut rfl rfl [] 60 ?_
  simp only [pa_Mod_readCut, ma_go, ev_A, ev_B, ev_C, ev_D, Nat.reduceAdd, List.mem_cons, List.not_mem_nil, or_false, or_true, true_or, false_or, or_self, Nat.reduceEqDiff, reduceCtorEq, ↓reduceIte, List.length_cons, List.length_nil, Nat.reduceLT, Nat.reduceLeDiff, Nat.le_refl, implies_true, true_and, and_true, Option.toList, List.cons_append, List.nil_append, gs_184]
  refine ma_callD mt_Mod_in rfl rfl (Nat.le_of_ble_eq_true rfl) (Nat.le_refl _) (Nat.le_refl _) (m_in l g x GS _ (nI i) (nI 0) (nI 32)) ?_
  simp only [pa_Mod_readCut, ma_go, ev_A, ev_B, ev_C, ev_D, Nat.reduceAdd, List.mem_cons, List.not_mem_nil, or_false, or_true, true_or, false_or, or_self, Nat.reduceEqDiff, reduceCtorEq, ↓reduceIte, List.length_cons, List.length_nil, Nat.reduceLT, Nat.reduceLeDiff, Nat.le_refl, implies_true, true_and, and_true, Option.toList, List.cons_append, List.nil_append, gs_184]
  rw [show decide (nI 0 ≤ nI i ∧ nI i ≤ nI 32) = true from decide_eq_true ⟨nI_le (Nat.zero_le _) (by omega), nI_le (by omega) (by omega)⟩]
  refine ⟨fun z => absurd z (by decide +kernel), fun _ => ?_⟩
  have hk : ∀ k, k < 45 → (nI k = nI i ↔ k = i) := fun k hk => nI_eq (by omega) (by omega)
  refine ma_callP mt_Mod_come rfl rfl (Nat.le_of_ble_eq_true rfl) (Nat.le_refl _) (Nat.le_refl _) (m_come l g x (on_pt o1 hp) hW (by rw [uI_ne (by omega)]; exact eW) hR (by rw [uI_ne (by omega)]; exact eR) ht (T := T) (f := fct T i) (pos := fun k => if k ≤ i then k else k - 1) (fun k hk => by rw [o1.2 186 (by decide)]; exact hT k hk) (by decide) (fun k hk => by show (if k ≤ i then k else k - 1) ≤ 46; split <;> omega) (if_pos (Nat.zero_le _)) (fun k h45 => ⟨fun q => absurd q (neg1 k (by omega)), fun q => ?_, ?_⟩)) ?_
  · have q2 : k ≠ i := fun z => q (by rw [z])
    rw [if_neg (neg1 k (by omega))]
    show fct T i ((if k ≤ i then k else k - 1) + 0) = T k
    unfold fct
    by_cases z : k ≤ i
    · rw [if_pos z, if_pos (by omega)]
      rfl
    · rw [if_neg z, if_neg (by omega)]
      congr 1
      omega
  · rw [if_neg (neg1 k (by omega))]
    show (if k + 1 ≤ i then k + 1 else k + 1 - 1) = (if k ≤ i then k else k - 1) + 0 + _
    by_cases z : k = i
    · rw [if_pos ((hk k h45).mpr z), if_neg (by omega), if_pos (by omega)]
      omega
    · rw [if_neg (fun y => z ((hk k h45).mp y))]
      by_cases y : k ≤ i
      · rw [if_pos y, if_pos (by omega)]
      · rw [if_neg y, if_neg (by omega)]
        omega
  · intro v S' h2 hpost
    obtain ⟨rfl, rfl, ha⟩ := hpost
    simp only [pa_Mod_readCut, ma_go, ev_A, ev_B, ev_C, ev_D, Nat.reduceAdd, List.mem_cons, List.not_mem_nil, or_false, or_true, true_or, false_or, or_self, Nat.reduceEqDiff, reduceCtorEq, ↓reduceIte, List.length_cons, List.length_nil, Nat.reduceLT, Nat.reduceLeDiff, Nat.le_refl, implies_true, true_and, and_true, Option.toList, List.cons_append, List.nil_append]
    refine ⟨fun z => absurd z n10, fun _ => ?_⟩
    rw [if_neg (by omega)] at ha
    exact ad_0 ha
theorem m_mreadGrownN {W R : Nat} (hW : W ≤ 64) (eW : h.1 184 2 = nI W) (hR : R ≤ 90) (eR : h.1 184 4 = nI R) {t i c : Int32} (hn : ¬ ((nI 0 ≤ t ∧ t < nI W) ∧ R < 90 ∧ (nI 0 ≤ i ∧ i ≤ nI 33) ∧ nI 0 ≤ c ∧ c ≤ nI 3)) : ma_PM l g x me_Mod_readGrown [.ref 184, .int t, .int i, .int c] GS h (fun v S' h' => v = some (.int (nI 0)) ∧ S' = GS ∧ h' = ma_uI h 184 0 (nI 0)) := by
  refine ma_PM_of (P := pr_Mod_readGrown) (by decide) rfl (Nat.le_of_ble_eq_true rfl) ?_
  show ma_J l g x none me_Mod_readGrown pr_Mod_readGrown _ 0 [some (.ref 184), some (.int t), some (.int i), some (.int c)] [] 0 0 GS h
  have no : ma_J l g x none me_Mod_readGrown pr_Mod_readGrown (fun v S' h' => v = some (.int (nI 0)) ∧ S' = GS ∧ h' = ma_uI h 184 0 (nI 0)) 22 [some (.ref 184), some (.int t), some (.int i), some (.int c)] [] 0 0 GS (ma_uI h 184 0 (nI 0)) := by
    refine ma_run0 po_Mod_readGrown rfl rfl [] 60 ?_
    simp only [pa_Mod_readGrown, ma_go, ev_A, ev_B, ev_C, ev_D, Nat.reduceAdd, List.mem_cons, List.not_mem_nil, or_false, or_true, true_or, false_or, or_self, Nat.reduceEqDiff, reduceCtorEq, ↓reduceIte, List.length_cons, List.length_nil, Nat.reduceLT, Nat.reduceLeDiff, Nat.le_refl, implies_true, true_and, and_true, Option.toList, List.cons_append, List.nil_append]
  refine ma_run0 po_Mod_readGrown rfl rfl [22] 60 ?_
  simp only [pa_Mod_readGrown, ma_go, ev_A, ev_B, ev_C, ev_D, Nat.reduceAdd, List.mem_cons, List.not_mem_nil, or_false, or_true, true_or, false_or, or_self, Nat.reduceEqDiff, reduceCtorEq, ↓reduceIte, List.length_cons, List.length_nil, Nat.reduceLT, Nat.reduceLeDiff, Nat.le_refl, implies_true, true_and, and_true, Option.toList, List.cons_append, List.nil_append, gs_184]
  refine ma_callD mt_Mod_in rfl rfl (Nat.le_of_ble_eq_true rfl) (Nat.le_refl _) (Nat.le_refl _) (m_in l g x GS _ i (nI 0) (nI 33)) ?_
  simp only [pa_Mod_readGrown, ma_go, ev_A, ev_B, ev_C, ev_D, Nat.reduceAdd, List.mem_cons, List.not_mem_nil, or_false, or_true, true_or, false_or, or_self, Nat.reduceEqDiff, reduceCtorEq, ↓reduceIte, List.length_cons, List.length_nil, Nat.reduceLT, Nat.reduceLeDiff, Nat.le_refl, implies_true, true_and, and_true, Option.toList, List.cons_append, List.nil_append, gs_184]
  by_cases q : nI 0 ≤ i ∧ i ≤ nI 33
  · rw [show decide (nI 0 ≤ i ∧ i ≤ nI 33) = true from decide_eq_true q]
    refine ⟨fun _ => no, fun _ => ?_⟩
    refine ma_callD mt_Mod_in rfl rfl (Nat.le_of_ble_eq_true rfl) (Nat.le_refl _) (Nat.le_refl _) (m_in l g x GS _ c (nI 0) (nI 3)) ?_
    simp only [pa_Mod_readGrown, ma_go, ev_A, ev_B, ev_C, ev_D, Nat.reduceAdd, List.mem_cons, List.not_mem_nil, or_false, or_true, true_or, false_or, or_self, Nat.reduceEqDiff, reduceCtorEq, ↓reduceIte, List.length_cons, List.length_nil, Nat.reduceLT, Nat.reduceLeDiff, Nat.le_refl, implies_true, true_and, and_true, Option.toList, List.cons_append, List.nil_append, gs_184]
    by_cases q2 : nI 0 ≤ c ∧ c ≤ nI 3
    · rw [show decide (nI 0 ≤ c ∧ c ≤ nI 3) = true from decide_eq_true q2]
      refine ⟨fun _ => no, fun _ => ?_⟩
      refine ma_callD mt_Mod_come rfl rfl (Nat.le_of_ble_eq_true rfl) (Nat.le_refl _) (Nat.le_refl _) (m_comeN l g x hW (by rw [uI_ne (by omega)]; exact eW) hR (by rw [uI_ne (by omega)]; exact eR) (fun z => hn ⟨z.1, z.2, q, q2⟩)) ?_
      simp only [pa_Mod_readGrown, ma_go, ev_A, ev_B, ev_C, ev_D, Nat.reduceAdd, List.mem_cons, List.not_mem_nil, or_false, or_true, true_or, false_or, or_self, Nat.reduceEqDiff, reduceCtorEq, ↓reduceIte, List.length_cons, List.length_nil, Nat.reduceLT, Nat.reduceLeDiff, Nat.le_refl, implies_true, true_and, and_true, Option.toList, List.cons_append, List.nil_append]
      exact ⟨fun _ => no, fun z => absurd trivial z⟩
    · rw [show decide (nI 0 ≤ c ∧ c ≤ nI 3) = false from decide_eq_false q2]
      exact ⟨fun _ => no, fun z => absurd rfl z⟩
  · rw [show decide (nI 0 ≤ i ∧ i ≤ nI 33) = false from decide_eq_false q]
    exact ⟨fun _ => no, fun z => absurd rfl z⟩
theorem m_mreadGrown (hp : pt_ok h) {W R t i c : Nat} {T : Nat → Nat} (hW : W ≤ 64) (eW : h.1 184 2 = nI W) (hR : R < 90) (eR : h.1 184 4 = nI R) (ht : t < W) (hi : i ≤ 33) (hc : c < 4) (hT : ∀ k, k < 45 → T k < 4 ∧ h.1 186 (45 * t + k) = nI (T k)) : ma_PM l g x me_Mod_readGrown [.ref 184, .int (nI t), .int (nI i), .int (nI c)] GS h (fun v S' h' => v = some (.int (nI 1)) ∧ S' = GS ∧ am h h' R 46 (fgr T i c)) := by
  refine ma_PM_of (P := pr_Mod_readGrown) (by decide) rfl (Nat.le_of_ble_eq_true rfl) ?_
  show ma_J l g x none me_Mod_readGrown pr_Mod_readGrown _ 0 [some (.ref 184), some (.int (nI t)), some (.int (nI i)), some (.int (nI c))] [] 0 0 GS h
  have o1 : on h (ma_uI h 184 0 (nI 0)) [184] := on_uI (on_rf h _) _ _ (by simp)
  refine ma_run0 po_Mod_readGrown rfl rfl [22] 60 ?_
  simp only [pa_Mod_readGrown, ma_go, ev_A, ev_B, ev_C, ev_D, Nat.reduceAdd, List.mem_cons, List.not_mem_nil, or_false, or_true, true_or, false_or, or_self, Nat.reduceEqDiff, reduceCtorEq, ↓reduceIte, List.length_cons, List.length_nil, Nat.reduceLT, Nat.reduceLeDiff, Nat.le_refl, implies_true, true_and, and_true, Option.toList, List.cons_append, List.nil_append, gs_184]
  refine ma_callD mt_Mod_in rfl rfl (Nat.le_of_ble_eq_true rfl) (Nat.le_refl _) (Nat.le_refl _) (m_in l g x GS _ (nI i) (nI 0) (nI 33)) ?_
  simp only [pa_Mod_readGrown, ma_go, ev_A, ev_B, ev_C, ev_D, Nat.reduceAdd, List.mem_cons, List.not_mem_nil, or_false, or_true, true_or, false_or, or_self, Nat.reduceEqDiff, reduceCtorEq, ↓reduceIte, List.length_cons, List.length_nil, Nat.reduceLT, Nat.reduceLeDiff, Nat.le_refl, implies_true, true_and, and_true, Option.toList, List.cons_append, List.nil_append, gs_184]
  rw [show decide (nI 0 ≤ nI i ∧ nI i ≤ nI 33) = true from decide_eq_true ⟨nI_le (Nat.zero_le _) (by omega), nI_le (by omega) (by omega)⟩]
  refine ⟨fun z => absurd z (by decide +kernel), fun _ => ?_⟩
  refine ma_callD mt_Mod_in rfl rfl (Nat.le_of_ble_eq_true rfl) (Nat.le_refl _) (Nat.le_refl _) (m_in l g x GS _ (nI c) (nI 0) (nI 3)) ?_
  simp only [pa_Mod_readGrown, ma_go, ev_A, ev_B, ev_C, ev_D, Nat.reduceAdd, List.mem_cons, List.not_mem_nil, or_false, or_true, true_or, false_or, or_self, Nat.reduceEqDiff, reduceCtorEq, ↓reduceIte, List.length_cons, List.length_nil, Nat.reduceLT, Nat.reduceLeDiff, Nat.le_refl, implies_true, true_and, and_true, Option.toList, List.cons_append, List.nil_append, gs_184]
  rw [show decide (nI 0 ≤ nI c ∧ nI c ≤ nI 3) = true from decide_eq_true ⟨nI_le (Nat.zero_le _) (by omega), nI_le (by omega) (by omega)⟩]
  refine ⟨fun z => absurd z (by decide +kernel), fun _ => ?_⟩
  have hk : ∀ k, k < 45 → (nI k = nI i ↔ k = i) := fun k hk => nI_eq (by omega) (by omega)
  refine ma_callP mt_Mod_come rfl rfl (Nat.le_of_ble_eq_true rfl) (Nat.le_refl _) (Nat.le_refl _) (m_come l g x (on_pt o1 hp) hW (by rw [uI_ne (by omega)]; exact eW) hR (by rw [uI_ne (by omega)]; exact eR) ht (T := T) (f := fgr T i c) (pos := fun k => if k ≤ i then k else k + 1) (fun k hk => by rw [o1.2 186 (by decide)]; exact hT k hk) hc (fun k hk => by show (if k ≤ i then k else k + 1) ≤ 46; split <;> omega) (if_pos (Nat.zero_le _)) (fun k h45 => ⟨fun q => ?_, fun q => ?_, ?_⟩)) ?_
  · have z := (hk k h45).mp q
    show fgr T i c (if k ≤ i then k else k + 1) = c
    rw [if_pos (by omega)]
    unfold fgr
    rw [if_neg (by omega), if_pos z]
  · show fgr T i c ((if k ≤ i then k else k + 1) + _) = T k
    unfold fgr
    by_cases z : k = i
    · rw [if_pos ((hk k h45).mpr z), if_pos (show k ≤ i by omega), if_neg (by omega), if_neg (by omega)]
      rfl
    · rw [if_neg (fun y => z ((hk k h45).mp y))]
      by_cases y : k ≤ i
      · rw [if_pos y, if_pos (by omega)]
        rfl
      · rw [if_neg y, if_neg (by omega), if_neg (by omega)]
        rfl
  · rw [if_neg (neg1 k (by omega))]
    show (if k + 1 ≤ i then k + 1 else k + 1 + 1) = (if k ≤ i then k else k + 1) + _ + 1
    by_cases z : k = i
    · rw [if_pos ((hk k h45).mpr z), if_neg (by omega), if_pos (show k ≤ i by omega)]
    · rw [if_neg (fun y => z ((hk k h45).mp y))]
      by_cases y : k ≤ i
      · rw [if_pos y, if_pos (by omega)]
      · rw [if_neg y, if_neg (by omega)]
  · intro v S' h2 hpost
    obtain ⟨rfl, rfl, ha⟩ := hpost
    simp only [pa_Mod_readGrown, ma_go, ev_A, ev_B, ev_C, ev_D, Nat.reduceAdd, List.mem_cons, List.not_mem_nil, or_false, or_true, true_or, false_or, or_self, Nat.reduceEqDiff, reduceCtorEq, ↓reduceIte, List.length_cons, List.length_nil, Nat.reduceLT, Nat.reduceLeDiff, Nat.le_refl, implies_true, true_and, and_true, Option.toList, List.cons_append, List.nil_append]
    refine ⟨fun z => absurd z n10, fun _ => ?_⟩
    rw [if_neg (by omega)] at ha
    exact ad_0 ha
end
