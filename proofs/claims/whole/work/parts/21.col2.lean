/-! Column: what is unknown, the polynomial of it, the sifting -/
def zb (b : Bool) : Nat := if b then 1 else 0
/-- an array of booleans -/
def az (h : ma_H) (a n : Nat) (M : Nat → Bool) : Prop := ∀ i, i < n → h.1 a i = nI (zb (M i))
theorem az_on {h h' : ma_H} {L : List Nat} (ho : on h h' L) {a n : Nat} {M : Nat → Bool} (ha : a ∉ L) (hr : az h a n M) : az h' a n M := fun i hi => by rw [ho.2 a ha]; exact hr i hi
theorem m_countUnknown (l : Launch) (g : ma_G) (x : Bool) {h : ma_H} (hp : pt_ok h) {M : Nat → Bool} (h1 : az h 165 16 M) : ma_PM l g x me_Col_countUnknown [.ref 163] GS h (fun v S' h' => v = some (.int (nI (gf_cn 16 M))) ∧ S' = GS ∧ h' = h) := by
  refine ma_PM_of (P := pr_Col_countUnknown) (by decide) rfl (Nat.le_of_ble_eq_true rfl) ?_
  show ma_J l g x none me_Col_countUnknown pr_Col_countUnknown _ 0 [some (.ref 163), none, none] [] 0 0 GS h
  have loop : ∀ m i, i + m = 16 → ma_J l g x none me_Col_countUnknown pr_Col_countUnknown (fun v S' h' => v = some (.int (nI (gf_cn 16 M))) ∧ S' = GS ∧ h' = h) 4 [some (.ref 163), some (.int (nI (gf_cn i M))), some (.int (nI i))] [] 0 0 GS h := by
    intro m
    induction m with
    | zero =>
      intro i hi
      refine ma_run0 po_Col_countUnknown rfl rfl [4] 60 ?_
      simp only [pa_Col_countUnknown, ma_go, ev_A, ev_B, ev_C, ev_D, Nat.reduceAdd, List.mem_cons, List.not_mem_nil, or_false, or_true, true_or, false_or, or_self, Nat.reduceEqDiff, reduceCtorEq, ↓reduceIte, List.length_cons, List.length_nil, Nat.reduceLT, Nat.reduceLeDiff, Nat.le_refl, implies_true, true_and, and_true, Option.toList, List.cons_append, List.nil_append, pt_Col hp, gs_163]
      have e : i = 16 := by omega
      subst e
      exact ⟨fun _ => rfl, fun q => absurd (nI_le (Nat.le_refl _) (by omega)) q⟩
    | succ m ih =>
      intro i hi
      refine ma_run0 po_Col_countUnknown rfl rfl [4] 60 ?_
      simp only [pa_Col_countUnknown, ma_go, ev_A, ev_B, ev_C, ev_D, Nat.reduceAdd, List.mem_cons, List.not_mem_nil, or_false, or_true, true_or, false_or, or_self, Nat.reduceEqDiff, reduceCtorEq, ↓reduceIte, List.length_cons, List.length_nil, Nat.reduceLT, Nat.reduceLeDiff, Nat.le_refl, implies_true, true_and, and_true, Option.toList, List.cons_append, List.nil_append, pt_Col hp, gs_163]
      refine ⟨fun q => absurd q (nI_ge (by omega) (by omega)), fun _ => ⟨ma_in_of gs_165 (by omega) (by decide), ?_⟩⟩
      rw [nI_clamp (by omega), h1 i (by omega)]
      have h2 := ih (i + 1) (by omega)
      have e0 : gf_cn (i + 1) M = gf_cn i M + zb (M i) := rfl
      rw [e0] at h2
      cases hM : M i
      · rw [hM] at h2
        refine ⟨fun _ => ?_, fun q => absurd rfl q⟩
        rw [nI_add, nx_1]
        exact h2
      · rw [hM] at h2
        refine ⟨fun q => absurd q (by decide +kernel), fun _ => ?_⟩
        rw [nI_add, nx_1]
        exact h2
  refine ma_run0 po_Col_countUnknown rfl rfl [4] 60 ?_
  simp only [pa_Col_countUnknown, ma_go, ev_A, ev_B, ev_C, ev_D, Nat.reduceAdd, List.mem_cons, List.not_mem_nil, or_false, or_true, true_or, false_or, or_self, Nat.reduceEqDiff, reduceCtorEq, ↓reduceIte, List.length_cons, List.length_nil, Nat.reduceLT, Nat.reduceLeDiff, Nat.le_refl, implies_true, true_and, and_true, Option.toList, List.cons_append, List.nil_append]
  exact loop 16 0 rfl
/-- the polynomial that is 0 at all unknown places but one -/
theorem m_spanUnknown (l : Launch) (g : ma_G) (x : Bool) {h : ma_H} (hp : pt_ok h) (hf : fd_ok h) {U q : Nat → Bool} (h1 : az h 165 16 U) {ex : Int32} (hq : ∀ s, s < 16 → q s = (U s && !decide (nI s = ex))) (hc : gf_cn 16 q ≤ 6) : ma_PM l g x me_Col_spanUnknown [.ref 163, .int ex] GS h (fun v S' h' => v = some (.int (nI (gf_cn 16 q))) ∧ S' = GS ∧ on h h' [168] ∧ ar h' 168 7 (gf_pc (gf_ul q 16))) := by
  refine ma_PM_of (P := pr_Col_spanUnknown) (by decide) rfl (Nat.le_of_ble_eq_true rfl) ?_
  show ma_J l g x none me_Col_spanUnknown pr_Col_spanUnknown _ 0 [some (.ref 163), some (.int ex), none, none, none, none] [] 0 0 GS h
  have outer : ∀ m s h', s + m = 16 → on h h' [168] → ar h' 168 7 (gf_pc (gf_ul q s)) → ma_J l g x none me_Col_spanUnknown pr_Col_spanUnknown (fun v S' h' => v = some (.int (nI (gf_cn 16 q))) ∧ S' = GS ∧ on h h' [168] ∧ ar h' 168 7 (gf_pc (gf_ul q 16))) 13 [some (.ref 163), some (.int ex), some (.int (nI (gf_cn s q))), some (.int (nI s)), none, none] [] 0 0 GS h' := by
    intro m
    induction m with
    | zero =>
      intro s h' hs ho ha
      have hp' := on_pt ho hp
      refine ma_run0 po_Col_spanUnknown rfl rfl [13] 60 ?_
      simp only [pa_Col_spanUnknown, ma_go, ev_A, ev_B, ev_C, ev_D, Nat.reduceAdd, List.mem_cons, List.not_mem_nil, or_false, or_true, true_or, false_or, or_self, Nat.reduceEqDiff, reduceCtorEq, ↓reduceIte, List.length_cons, List.length_nil, Nat.reduceLT, Nat.reduceLeDiff, Nat.le_refl, implies_true, true_and, and_true, Option.toList, List.cons_append, List.nil_append, pt_Col hp', gs_163]
      have e : s = 16 := by omega
      subst e
      exact ⟨fun _ => ⟨rfl, ho, ha⟩, fun q => absurd (nI_le (Nat.le_refl _) (by omega)) q⟩
    | succ m ih =>
      intro s h' hs ho ha
      have hp' := on_pt ho hp
      have hf' := fd_on ho (by decide) (by decide) hf
      have h1' := az_on ho (by decide) h1
      have hcs : gf_cn (s + 1) q ≤ gf_cn 16 q := by
        have : ∀ d, gf_cn (s + 1) q ≤ gf_cn (s + 1 + d) q := by
          intro d
          induction d with
          | zero => exact Nat.le_refl _
          | succ d ih => exact Nat.le_trans ih (Nat.le_add_right _ _)
        have h2 := this (15 - s)
        rwa [show s + 1 + (15 - s) = 16 by omega] at h2
      have skip : q s = false → ma_J l g x none me_Col_spanUnknown pr_Col_spanUnknown (fun v S' h' => v = some (.int (nI (gf_cn 16 q))) ∧ S' = GS ∧ on h h' [168] ∧ ar h' 168 7 (gf_pc (gf_ul q 16))) 13 [some (.ref 163), some (.int ex), some (.int (nI (gf_cn s q))), some (.int (nI (s + 1))), none, none] [] 0 0 GS h' := by
        intro hqs
        have h2 := ih (s + 1) h' (by omega) ho
        have e1 : gf_ul q (s + 1) = gf_ul q s := by rw [gf_ul, hqs]; rfl
        have e2 : gf_cn (s + 1) q = gf_cn s q := by rw [gf_cn, hqs]; rfl
        rw [e1, e2] at h2
        exact h2 ha
      have qs := hq s (by omega)
      refine ma_run0 po_Col_spanUnknown rfl rfl [13, 35] 80 ?_
      simp only [pa_Col_spanUnknown, ma_go, ev_A, ev_B, ev_C, ev_D, Nat.reduceAdd, List.mem_cons, List.not_mem_nil, or_false, or_true, true_or, false_or, or_self, Nat.reduceEqDiff, reduceCtorEq, ↓reduceIte, List.length_cons, List.length_nil, Nat.reduceLT, Nat.reduceLeDiff, Nat.le_refl, implies_true, true_and, and_true, Option.toList, List.cons_append, List.nil_append, pt_Col hp', gs_163]
      refine ⟨fun q => absurd q (nI_ge (by omega) (by omega)), fun _ => ⟨ma_in_of gs_165 (by omega) (by decide), ?_⟩⟩
      rw [nI_clamp (by omega), h1' s (by omega), nx_1]
      cases hU : U s
      · rw [hU] at qs
        exact ⟨fun _ => ma_J.less (skip (by rw [qs]; rfl)) ⟨rfl, rfl, rfl, rfl, trivial⟩, fun q => absurd rfl q⟩
      · refine ⟨fun q => absurd q (by decide +kernel), fun _ => ⟨fun e => ?_, fun e => ?_⟩⟩
        · rw [hU] at qs
          exact ma_J.less (skip (by rw [qs]; simp [e])) ⟨rfl, rfl, rfl, rfl, trivial⟩
        · have hqs : q s = true := by rw [qs, hU]; simp [e]
          have hcn : gf_cn (s + 1) q = gf_cn s q + 1 := by rw [gf_cn, hqs]; rfl
          have hul : gf_ul q (s + 1) = s :: gf_ul q s := by rw [gf_ul, hqs]; rfl
          have hlen := gf_ul_len q s
          refine ⟨fun q => absurd q (nI_ge (by omega) (by omega)), fun _ => ⟨gs_160, ?_⟩⟩
          refine ma_callD mt_Fld_powerOfTwo rfl rfl (Nat.le_of_ble_eq_true rfl) (Nat.le_refl _) (Nat.le_refl _) (m_powerOfTwo l g x hf' (by omega)) ?_
          simp only [pa_Col_spanUnknown, ma_go, ev_A, ev_B, ev_C, ev_D, Nat.reduceAdd, List.mem_cons, List.not_mem_nil, or_false, or_true, true_or, false_or, or_self, Nat.reduceEqDiff, reduceCtorEq, ↓reduceIte, List.length_cons, List.length_nil, Nat.reduceLT, Nat.reduceLeDiff, Nat.le_refl, implies_true, true_and, and_true, Option.toList, List.cons_append, List.nil_append, pt_Col hp', gs_163]
          rw [nx_1]
          have inner : ∀ i h2, i ≤ gf_cn s q + 1 → on h h2 [168] → (∀ j, j < 7 → h2.1 168 j = nI (if j ≤ i then gf_pc (gf_ul q s) j else gf_pc (s :: gf_ul q s) j)) → ma_J l g x none me_Col_spanUnknown pr_Col_spanUnknown (fun v S' h' => v = some (.int (nI (gf_cn 16 q))) ∧ S' = GS ∧ on h h' [168] ∧ ar h' 168 7 (gf_pc (gf_ul q 16))) 35 [some (.ref 163), some (.int ex), some (.int (nI (gf_cn s q + 1))), some (.int (nI s)), some (.int (nI (gf_ex s))), some (.int (nI i))] [] 0 0 GS h2 := by
            intro i
            induction i with
            | zero =>
              intro h2 hi ho2 ha2
              have hp2 := on_pt ho2 hp
              have hf2 := fd_on ho2 (by decide) (by decide) hf
              refine ma_run0 po_Col_spanUnknown rfl rfl [13, 35] 80 ?_
              simp only [pa_Col_spanUnknown, ma_go, ev_A, ev_B, ev_C, ev_D, Nat.reduceAdd, List.mem_cons, List.not_mem_nil, or_false, or_true, true_or, false_or, or_self, Nat.reduceEqDiff, reduceCtorEq, ↓reduceIte, List.length_cons, List.length_nil, Nat.reduceLT, Nat.reduceLeDiff, Nat.le_refl, implies_true, true_and, and_true, Option.toList, List.cons_append, List.nil_append, pt_Col hp2, gs_163]
              refine ⟨fun _ => ⟨ma_in_of gs_168 (by omega) (by decide), gs_160, ?_⟩, fun q => absurd (nI_lt (by omega) (by omega)) q⟩
              rw [nI_clamp (by omega), ha2 0 (by omega), if_pos (Nat.le_refl _)]
              refine ma_callD mt_Fld_times rfl rfl (Nat.le_of_ble_eq_true rfl) (Nat.le_refl _) (Nat.le_refl _) (m_times l g x hf2 (gf_ex_pos _).2 (gf_pc_lt _ _)) ?_
              simp only [pa_Col_spanUnknown, ma_go, ev_A, ev_B, ev_C, ev_D, Nat.reduceAdd, List.mem_cons, List.not_mem_nil, or_false, or_true, true_or, false_or, or_self, Nat.reduceEqDiff, reduceCtorEq, ↓reduceIte, List.length_cons, List.length_nil, Nat.reduceLT, Nat.reduceLeDiff, Nat.le_refl, implies_true, true_and, and_true, Option.toList, List.cons_append, List.nil_append]
              rw [nI_clamp (by omega), nx_1]
              have h3 := ih (s + 1) (ma_uI h2 168 0 (nI (gf_m (gf_ex s) (gf_pc (gf_ul q s) 0)))) (by omega) (on_uI ho2 _ _ (by simp)) (fun j hj => by
                rw [hul]
                by_cases e : j = 0
                · subst e
                  rw [uI_same, gf_pc, if_pos rfl, Nat.zero_xor]
                · rw [uI_ne (fun q => e q.2), ha2 j hj, if_neg (by omega)])
              rw [hcn] at h3
              exact ⟨ma_in_of gs_168 (by omega) (by decide), ma_J.less h3 ⟨rfl, rfl, rfl, rfl, trivial⟩⟩
            | succ i ihi =>
              intro h2 hi ho2 ha2
              have hp2 := on_pt ho2 hp
              have hf2 := fd_on ho2 (by decide) (by decide) hf
              refine ma_run0 po_Col_spanUnknown rfl rfl [13, 35] 80 ?_
              simp only [pa_Col_spanUnknown, ma_go, ev_A, ev_B, ev_C, ev_D, Nat.reduceAdd, List.mem_cons, List.not_mem_nil, or_false, or_true, true_or, false_or, or_self, Nat.reduceEqDiff, reduceCtorEq, ↓reduceIte, List.length_cons, List.length_nil, Nat.reduceLT, Nat.reduceLeDiff, Nat.le_refl, implies_true, true_and, and_true, Option.toList, List.cons_append, List.nil_append, pt_Col hp2, gs_163]
              refine ⟨fun q => absurd q (nI_nlt (by omega) (by omega)), fun _ => ?_⟩
              rw [show nI (i + 1) - nI 1 = nI i from nx_sub i 1, nI_clamp (by omega), nI_clamp (by omega), ha2 i (by omega), ha2 (i + 1) (by omega), if_pos (show i ≤ i + 1 by omega), if_pos (Nat.le_refl (i + 1))]
              refine ⟨ma_in_of gs_168 (by omega) (by decide), ma_in_of gs_168 (by omega) (by decide), gs_160, ?_⟩
              refine ma_callD mt_Fld_times rfl rfl (Nat.le_of_ble_eq_true rfl) (Nat.le_refl _) (Nat.le_refl _) (m_times l g x hf2 (gf_ex_pos _).2 (gf_pc_lt _ _)) ?_
              simp only [pa_Col_spanUnknown, ma_go, ev_A, ev_B, ev_C, ev_D, Nat.reduceAdd, List.mem_cons, List.not_mem_nil, or_false, or_true, true_or, false_or, or_self, Nat.reduceEqDiff, reduceCtorEq, ↓reduceIte, List.length_cons, List.length_nil, Nat.reduceLT, Nat.reduceLeDiff, Nat.le_refl, implies_true, true_and, and_true, Option.toList, List.cons_append, List.nil_append]
              rw [nI_clamp (by omega), pk_m1, nx_xor]
              refine ⟨ma_in_of gs_168 (by omega) (by decide), ihi _ (by omega) (on_uI ho2 _ _ (by simp)) (fun j hj => ?_)⟩
              by_cases e : j = i + 1
              · subst e
                rw [uI_same, if_neg (by omega), gf_pc, if_neg (by omega), Nat.add_sub_cancel]
              · rw [uI_ne (fun q => e q.2), ha2 j hj]
                by_cases e2 : j ≤ i
                · rw [if_pos (by omega), if_pos e2]
                · rw [if_neg (by omega), if_neg e2]
          refine inner _ h' (Nat.le_refl _) ho (fun j hj => ?_)
          rw [ha j hj]
          by_cases e2 : j ≤ gf_cn s q + 1
          · rw [if_pos e2]
          · rw [if_neg e2, (gf_pc_top (gf_ul q s)).2 j (by omega), (gf_pc_top (s :: gf_ul q s)).2 j (by rw [List.length_cons]; omega)]
  refine ma_run0 po_Col_spanUnknown rfl rfl [13] 60 ?_
  simp only [pa_Col_spanUnknown, ma_go, ev_A, ev_B, ev_C, ev_D, Nat.reduceAdd, List.mem_cons, List.not_mem_nil, or_false, or_true, true_or, false_or, or_self, Nat.reduceEqDiff, reduceCtorEq, ↓reduceIte, List.length_cons, List.length_nil, Nat.reduceLT, Nat.reduceLeDiff, Nat.le_refl, implies_true, true_and, and_true, Option.toList, List.cons_append, List.nil_append, pt_Col hp, gs_163]
  refine ma_callP mt_Arr_fill rfl rfl (Nat.le_of_ble_eq_true rfl) (Nat.le_refl _) (Nat.le_refl _) (m_fill l g x gs_168 (by decide) 0) ?_
  intro v S' h' hpost
  obtain ⟨rfl, rfl, ho, ha⟩ := hpost
  have hp' := on_pt ho hp
  simp only [pa_Col_spanUnknown, ma_go, ev_A, ev_B, ev_C, ev_D, Nat.reduceAdd, List.mem_cons, List.not_mem_nil, or_false, or_true, true_or, false_or, or_self, Nat.reduceEqDiff, reduceCtorEq, ↓reduceIte, List.length_cons, List.length_nil, Nat.reduceLT, Nat.reduceLeDiff, Nat.le_refl, implies_true, true_and, and_true, Option.toList, List.cons_append, List.nil_append, pt_Col hp', gs_163]
  rw [nI_clamp (by omega)]
  refine ⟨ma_in_of gs_168 (by omega) (by decide), outer 16 0 _ rfl (on_uI ho _ _ (by simp)) (fun j hj => ?_)⟩
  show _ = nI (if j = 0 then 1 else 0)
  by_cases e : j = 0
  · subst e; exact uI_same _ _ _ _
  · rw [uI_ne (fun q => e q.2), ha j hj, if_neg e]
theorem m_siftOutUnknown (l : Launch) (g : ma_G) (x : Bool) {h : ma_H} (hp : pt_ok h) (hf : fd_ok h) {M : Nat → Bool} (h1 : az h 165 16 M) (hc : gf_cn 16 M ≤ 6) {S : Nat → Nat} (hS : ∀ i, S i < 256) (h2 : ar h 166 6 S) : ma_PM l g x me_Col_siftOutUnknown [.ref 163, .int (nI (6 - gf_cn 16 M))] GS h (fun v S' h' => v = none ∧ S' = GS ∧ on h h' [167, 168] ∧ ar h' 167 (6 - gf_cn 16 M) (gf_dl (gf_ul M 16) S)) := by
  refine ma_PM_of (P := pr_Col_siftOutUnknown) (by decide) rfl (Nat.le_of_ble_eq_true rfl) ?_
  show ma_J l g x none me_Col_siftOutUnknown pr_Col_siftOutUnknown _ 0 [some (.ref 163), some (.int (nI (6 - gf_cn 16 M))), none, none] [] 0 0 GS h
  refine ma_run0 po_Col_siftOutUnknown rfl rfl [6] 60 ?_
  simp only [pa_Col_siftOutUnknown, ma_go, ev_A, ev_B, ev_C, ev_D, Nat.reduceAdd, List.mem_cons, List.not_mem_nil, or_false, or_true, true_or, false_or, or_self, Nat.reduceEqDiff, reduceCtorEq, ↓reduceIte, List.length_cons, List.length_nil, Nat.reduceLT, Nat.reduceLeDiff, Nat.le_refl, implies_true, true_and, and_true, Option.toList, List.cons_append, List.nil_append, pt_Col hp, gs_163]
  have hne : ∀ s, s < 16 → ¬ nI s = -1 := by decide +kernel
  have hqq : ∀ s, s < 16 → M s = (M s && !decide (nI s = -1)) := fun s hs => by simp [hne s hs]
  refine ma_callP mt_Col_spanUnknown rfl rfl (Nat.le_of_ble_eq_true rfl) (Nat.le_refl _) (Nat.le_refl _) (m_spanUnknown l g x hp hf h1 hqq hc) ?_
  intro v S' h' hpost
  obtain ⟨rfl, rfl, ho, ha⟩ := hpost
  have loop : ∀ m j h2, j + m = 6 - gf_cn 16 M → on h' h2 [167] → ar h2 167 j (gf_dl (gf_ul M 16) S) → ma_J l g x none me_Col_siftOutUnknown pr_Col_siftOutUnknown (fun v S' h' => v = none ∧ S' = GS ∧ on h h' [167, 168] ∧ ar h' 167 (6 - gf_cn 16 M) (gf_dl (gf_ul M 16) S)) 6 [some (.ref 163), some (.int (nI (6 - gf_cn 16 M))), some (.int (nI (gf_cn 16 M))), some (.int (nI j))] [] 0 0 GS h2 := by
    intro m
    induction m with
    | zero =>
      intro j h2 hj ho2 ha2
      refine ma_run0 po_Col_siftOutUnknown rfl rfl [6] 60 ?_
      simp only [pa_Col_siftOutUnknown, ma_go, ev_A, ev_B, ev_C, ev_D, Nat.reduceAdd, List.mem_cons, List.not_mem_nil, or_false, or_true, true_or, false_or, or_self, Nat.reduceEqDiff, reduceCtorEq, ↓reduceIte, List.length_cons, List.length_nil, Nat.reduceLT, Nat.reduceLeDiff, Nat.le_refl, implies_true, true_and, and_true, Option.toList, List.cons_append, List.nil_append]
      have e : j = 6 - gf_cn 16 M := by omega
      subst e
      refine ⟨fun _ => ⟨on_tr (on_mo ho (by simp)) (on_mo ho2 (by simp)), ha2⟩, fun q => absurd (nI_le (Nat.le_refl _) (by omega)) q⟩
    | succ m ih =>
      intro j h3 hj ho2 ha2
      have ho3 := on_tr (L := [167, 168]) (on_mo ho (by simp)) (on_mo ho2 (by simp))
      have hp3 := on_pt ho3 hp
      have hf3 := fd_on ho3 (by decide) (by decide) hf
      refine ma_run0 po_Col_siftOutUnknown rfl rfl [6] 60 ?_
      simp only [pa_Col_siftOutUnknown, ma_go, ev_A, ev_B, ev_C, ev_D, Nat.reduceAdd, List.mem_cons, List.not_mem_nil, or_false, or_true, true_or, false_or, or_self, Nat.reduceEqDiff, reduceCtorEq, ↓reduceIte, List.length_cons, List.length_nil, Nat.reduceLT, Nat.reduceLeDiff, Nat.le_refl, implies_true, true_and, and_true, Option.toList, List.cons_append, List.nil_append, pt_Col hp3, gs_163]
      refine ⟨fun q => absurd q (nI_ge (by omega) (by omega)), fun _ => ?_⟩
      refine ma_callD mt_Col_weigh rfl rfl (Nat.le_of_ble_eq_true rfl) (Nat.le_refl _) (Nat.le_refl _) (m_weigh l g x hp3 hf3 (gf_pc_lt _) hS (ar_on ho2 (by decide) ha) (ar_on ho3 (by decide) h2) (by omega)) ?_
      simp only [pa_Col_siftOutUnknown, ma_go, ev_A, ev_B, ev_C, ev_D, Nat.reduceAdd, List.mem_cons, List.not_mem_nil, or_false, or_true, true_or, false_or, or_self, Nat.reduceEqDiff, reduceCtorEq, ↓reduceIte, List.length_cons, List.length_nil, Nat.reduceLT, Nat.reduceLeDiff, Nat.le_refl, implies_true, true_and, and_true, Option.toList, List.cons_append, List.nil_append]
      have hw := gf_wg (gf_ul M 16) hS j
      rw [gf_ul_len] at hw
      rw [nI_clamp (by omega), nx_1, hw]
      refine ⟨ma_in_of gs_167 (by omega) (by decide), ih (j + 1) _ (by omega) (on_uI ho2 _ _ (by simp)) (fun i hi => ?_)⟩
      by_cases e : i = j
      · subst e; exact uI_same _ _ _ _
      · rw [uI_ne (fun q => e q.2)]; exact ha2 i (by omega)
  simp only [pa_Col_siftOutUnknown, ma_go, ev_A, ev_B, ev_C, ev_D, Nat.reduceAdd, List.mem_cons, List.not_mem_nil, or_false, or_true, true_or, false_or, or_self, Nat.reduceEqDiff, reduceCtorEq, ↓reduceIte, List.length_cons, List.length_nil, Nat.reduceLT, Nat.reduceLeDiff, Nat.le_refl, implies_true, true_and, and_true, Option.toList, List.cons_append, List.nil_append]
  exact loop (6 - gf_cn 16 M) 0 h' (by omega) (on_rf h' _) (fun i hi => by omega)
