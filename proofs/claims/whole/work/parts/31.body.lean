/-! bodies: sum, signature, groups, majorities, slots -/
def sm : Nat → (Nat → Nat) → Nat
  | 0, _ => 0
  | n + 1, f => sm n f + f n
theorem sm_le {f : Nat → Nat} {c : Nat} : ∀ n, (∀ i, i < n → f i ≤ c) → sm n f ≤ n * c
  | 0, _ => Nat.zero_le _
  | n + 1, h => by
    have h1 := sm_le n (fun i hi => h i (by omega))
    have h2 := h n (by omega)
    rw [sm, Nat.succ_mul]
    omega
theorem sm_congr {f k : Nat → Nat} : ∀ n, (∀ i, i < n → f i = k i) → sm n f = sm n k
  | 0, _ => rfl
  | n + 1, h => by rw [sm, sm, sm_congr n (fun i hi => h i (by omega)), h n (by omega)]
def ri (w : Nat → Nat) (i : Nat) : Nat := if i ≠ 0 ∧ w (i - 1) ≤ w i then i else 0
theorem ri_le (w : Nat → Nat) (i : Nat) : ri w i ≤ i := by
  unfold ri
  split <;> omega
def ah (w : Nat → Nat) (k : Nat) : Nat := if k = 0 then 3 else w (k - 1)
def dg (w : Nat → Nat) (k : Nat) : Nat := if w k < ah w k then w k else w k - 1
def gp (w : Nat → Nat) (g : Nat) : Nat → Nat
  | 0 => 0
  | m + 1 => 3 * gp w g m + dg w (11 * g + m)
theorem ah_le {w : Nat → Nat} (hw : ∀ k, k < 33 → w k < 4) {k : Nat} (hk : k < 33) : ah w k < 4 := by
  unfold ah
  split
  · omega
  · exact hw _ (by omega)
theorem dg_le {w : Nat → Nat} (hw : ∀ k, k < 33 → w k < 4) {k : Nat} (hk : k < 33) : dg w k ≤ 2 := by
  have h1 := ah_le hw hk
  have h2 := hw k hk
  unfold dg
  split <;> omega
theorem gp_lt {w : Nat → Nat} (hw : ∀ k, k < 33 → w k < 4) {g : Nat} (hg : g < 3) : ∀ m, m ≤ 11 → gp w g m < 3 ^ m
  | 0, _ => (by decide : (0 : Nat) < 1)
  | m + 1, hm => by
    have h1 := gp_lt hw hg m (by omega)
    have h2 := dg_le hw (show 11 * g + m < 33 by omega)
    rw [gp, Nat.pow_succ]
    omega
theorem gp_b {w : Nat → Nat} (hw : ∀ k, k < 33 → w k < 4) {g : Nat} (hg : g < 3) {m : Nat} (hm : m ≤ 11) : gp w g m < 177147 := Nat.lt_of_lt_of_le (gp_lt hw hg m hm) (Nat.pow_le_pow_right (by decide) hm)
def oI : Option Nat → Int32
  | some n => nI n
  | none => -1
def mj (a b c : Nat) : Option Nat := if a = b ∨ a = c then some a else if b = c then some b else none
theorem mj_cn {a b c n : Nat} : 1 < zb (a == n) + zb (b == n) + zb (c == n) ↔ mj a b c = some n := by
  have z : ∀ p : Prop, [Decidable p] → zb (decide p) = if p then 1 else 0 := fun p _ => by by_cases h : p <;> simp [h, zb]
  have e : ∀ y : Nat, (y == n) = decide (y = n) := fun y => by by_cases h : y = n <;> simp [h]
  rw [e, e, e, z, z, z]
  unfold mj
  by_cases h1 : a = n <;> by_cases h2 : b = n <;> by_cases h3 : c = n <;> simp [h1, h2, h3] <;> (first | done | omega | (split <;> simp <;> omega) | (split <;> (first | simp | (split <;> simp)) <;> omega))
theorem mj_lt {a b c n : Nat} (ha : a < 4) (hb : b < 4) (h : mj a b c = some n) : n < 4 := by
  unfold mj at h
  split at h
  · cases h; exact ha
  · split at h
    · cases h; exact hb
    · cases h
def wf (w : Nat → Nat) : Prop := ∀ k, k < 33 → w k < 4
theorem m_sum (l : Launch) (g : ma_G) (x : Bool) {h : ma_H} (hp : pt_ok h) {w : Nat → Nat} (hw : wf w) (h1 : ar h 192 33 w) : ma_PM l g x me_Mod_sum [.ref 184] GS h (fun v S' h' => v = some (.int (nI (sm 33 w % 4))) ∧ S' = GS ∧ h' = h) := by
  refine ma_PM_of (P := pr_Mod_sum) (by decide) rfl (Nat.le_of_ble_eq_true rfl) ?_
  show ma_J l g x none me_Mod_sum pr_Mod_sum _ 0 [some (.ref 184), none, none] [] 0 0 GS h
  have hb := sm_le (f := w) (c := 3) 33 (fun i hi => by have := hw i hi; omega)
  have loop : ∀ m k, k + m = 33 → ma_J l g x none me_Mod_sum pr_Mod_sum (fun v S' h' => v = some (.int (nI (sm 33 w % 4))) ∧ S' = GS ∧ h' = h) 4 [some (.ref 184), some (.int (nI (sm k w))), some (.int (nI k))] [] 0 0 GS h := by
    intro m
    induction m with
    | zero =>
      intro k hk
      have e : k = 33 := by omega
      subst e
      refine ma_run0 po_Mod_sum rfl rfl [4] 60 ?_
      simp only [pa_Mod_sum, ma_go, ev_A, ev_B, ev_C, ev_D, Nat.reduceAdd, List.mem_cons, List.not_mem_nil, or_false, or_true, true_or, false_or, or_self, Nat.reduceEqDiff, reduceCtorEq, ↓reduceIte, List.length_cons, List.length_nil, Nat.reduceLT, Nat.reduceLeDiff, Nat.le_refl, implies_true, true_and, and_true, Option.toList, List.cons_append, List.nil_append, pt_Mod hp, gs_184]
      rw [ma_irem_nI (by omega) (by omega) (by omega)]
      exact ⟨fun _ => ⟨nx_ne0 (by decide) (by decide), rfl⟩, fun q => absurd (nI_le (Nat.le_refl _) (by omega)) q⟩
    | succ m ih =>
      intro k hk
      have hv := h1 k (by omega)
      refine ma_run0 po_Mod_sum rfl rfl [4] 60 ?_
      simp only [pa_Mod_sum, ma_go, ev_A, ev_B, ev_C, ev_D, Nat.reduceAdd, List.mem_cons, List.not_mem_nil, or_false, or_true, true_or, false_or, or_self, Nat.reduceEqDiff, reduceCtorEq, ↓reduceIte, List.length_cons, List.length_nil, Nat.reduceLT, Nat.reduceLeDiff, Nat.le_refl, implies_true, true_and, and_true, Option.toList, List.cons_append, List.nil_append, pt_Mod hp, gs_184]
      refine ⟨fun q => absurd q (nI_ge (by omega) (by omega)), fun _ => ⟨ma_in_of gs_192 (by omega) (by decide), ?_⟩⟩
      rw [nI_clamp (by omega), hv, nI_add, nx_1]
      exact ih (k + 1) (by omega)
  refine ma_run0 po_Mod_sum rfl rfl [4] 60 ?_
  simp only [pa_Mod_sum, ma_go, ev_A, ev_B, ev_C, ev_D, Nat.reduceAdd, List.mem_cons, List.not_mem_nil, or_false, or_true, true_or, false_or, or_self, Nat.reduceEqDiff, reduceCtorEq, ↓reduceIte, List.length_cons, List.length_nil, Nat.reduceLT, Nat.reduceLeDiff, Nat.le_refl, implies_true, true_and, and_true, Option.toList, List.cons_append, List.nil_append]
  exact loop 33 0 (by omega)
theorem m_signature (l : Launch) (g : ma_G) (x : Bool) {h : ma_H} (hp : pt_ok h) {w : Nat → Nat} (hw : wf w) (h1 : ar h 192 33 w) : ma_PM l g x me_Mod_signature [.ref 184] GS h (fun v S' h' => v = some (.int (nI (sm 33 (ri w) % 33))) ∧ S' = GS ∧ h' = h) := by
  refine ma_PM_of (P := pr_Mod_signature) (by decide) rfl (Nat.le_of_ble_eq_true rfl) ?_
  show ma_J l g x none me_Mod_signature pr_Mod_signature _ 0 [some (.ref 184), none, none] [] 0 0 GS h
  have hb := sm_le (f := ri w) (c := 33) 33 (fun i hi => by have := ri_le w i; omega)
  have loop : ∀ m k, k + m = 33 → 1 ≤ k → ma_J l g x none me_Mod_signature pr_Mod_signature (fun v S' h' => v = some (.int (nI (sm 33 (ri w) % 33))) ∧ S' = GS ∧ h' = h) 4 [some (.ref 184), some (.int (nI (sm k (ri w)))), some (.int (nI k))] [] 0 0 GS h := by
    intro m
    induction m with
    | zero =>
      intro k hk _
      have e : k = 33 := by omega
      subst e
      refine ma_run0 po_Mod_signature rfl rfl [4] 60 ?_
      simp only [pa_Mod_signature, ma_go, ev_A, ev_B, ev_C, ev_D, Nat.reduceAdd, List.mem_cons, List.not_mem_nil, or_false, or_true, true_or, false_or, or_self, Nat.reduceEqDiff, reduceCtorEq, ↓reduceIte, List.length_cons, List.length_nil, Nat.reduceLT, Nat.reduceLeDiff, Nat.le_refl, implies_true, true_and, and_true, Option.toList, List.cons_append, List.nil_append, pt_Mod hp, gs_184]
      rw [ma_irem_nI (by omega) (by omega) (by omega)]
      exact ⟨fun _ => ⟨nx_ne0 (by decide) (by decide), rfl⟩, fun q => absurd (nI_le (Nat.le_refl _) (by omega)) q⟩
    | succ m ih =>
      intro k hk hk1
      have hv := h1 k (by omega)
      have hv1 := h1 (k - 1) (by omega)
      have l1 := hw k (by omega)
      have l2 := hw (k - 1) (by omega)
      have i1 := ih (k + 1) (by omega) (by omega)
      refine ma_run0 po_Mod_signature rfl rfl [4] 60 ?_
      simp only [pa_Mod_signature, ma_go, ev_A, ev_B, ev_C, ev_D, Nat.reduceAdd, List.mem_cons, List.not_mem_nil, or_false, or_true, true_or, false_or, or_self, Nat.reduceEqDiff, reduceCtorEq, ↓reduceIte, List.length_cons, List.length_nil, Nat.reduceLT, Nat.reduceLeDiff, Nat.le_refl, implies_true, true_and, and_true, Option.toList, List.cons_append, List.nil_append, pt_Mod hp, gs_184]
      refine ⟨fun q => absurd q (nI_ge (by omega) (by omega)), fun _ => ⟨ma_in_of gs_192 (by omega) (by decide), ?_⟩⟩
      rw [nx_sub' (by omega), nI_clamp (n := k) (by omega), nI_clamp (n := k - 1) (by omega), hv, hv1]
      simp only [nI_add]
      rw [show sm (k + 1) (ri w) = sm k (ri w) + ri w k from rfl] at i1
      refine ⟨ma_in_of gs_192 (by omega) (by decide), fun q => ?_, fun q => ?_⟩
      · rw [ri, if_neg (fun z => by have := (nI_ltI (by omega) (by omega)).mp q; omega)] at i1
        exact i1
      · rw [ri, if_pos ⟨by omega, Nat.le_of_not_lt (fun z => q (nI_lt z (by omega)))⟩] at i1
        exact i1
  refine ma_run0 po_Mod_signature rfl rfl [4] 60 ?_
  simp only [pa_Mod_signature, ma_go, ev_A, ev_B, ev_C, ev_D, Nat.reduceAdd, List.mem_cons, List.not_mem_nil, or_false, or_true, true_or, false_or, or_self, Nat.reduceEqDiff, reduceCtorEq, ↓reduceIte, List.length_cons, List.length_nil, Nat.reduceLT, Nat.reduceLeDiff, Nat.le_refl, implies_true, true_and, and_true, Option.toList, List.cons_append, List.nil_append]
  exact loop 32 1 (by omega) (by omega)
theorem m_group (l : Launch) (g : ma_G) (x : Bool) {h : ma_H} (hp : pt_ok h) {w : Nat → Nat} (hw : wf w) (h1 : ar h 192 33 w) (hr : ∀ k, k < 33 → w k ≠ ah w k) {G : Nat} (hG : G < 3) : ma_PM l g x me_Mod_group [.ref 184, .int (nI G)] GS h (fun v S' h' => v = some (.int (nI (gp w G 11))) ∧ S' = GS ∧ h' = h) := by
  refine ma_PM_of (P := pr_Mod_group) (by decide) rfl (Nat.le_of_ble_eq_true rfl) ?_
  show ma_J l g x none me_Mod_group pr_Mod_group _ 0 [some (.ref 184), some (.int (nI G)), none, none, none] [] 0 0 GS h
  have loop : ∀ m j, j + m = 11 → ma_J l g x none me_Mod_group pr_Mod_group (fun v S' h' => v = some (.int (nI (gp w G 11))) ∧ S' = GS ∧ h' = h) 6 [some (.ref 184), some (.int (nI G)), some (.int (nI (gp w G j))), some (.int (nI (11 * G + j))), none] [] 0 0 GS h := by
    intro m
    induction m with
    | zero =>
      intro j hj
      have e : j = 11 := by omega
      subst e
      refine ma_run0 po_Mod_group rfl rfl [6] 60 ?_
      simp only [pa_Mod_group, ma_go, ev_A, ev_B, ev_C, ev_D, Nat.reduceAdd, List.mem_cons, List.not_mem_nil, or_false, or_true, true_or, false_or, or_self, Nat.reduceEqDiff, reduceCtorEq, ↓reduceIte, List.length_cons, List.length_nil, Nat.reduceLT, Nat.reduceLeDiff, Nat.le_refl, implies_true, true_and, and_true, Option.toList, List.cons_append, List.nil_append, pt_Mod hp, gs_184]
      rw [pk_mul, nI_add]
      exact fun q => absurd (nI_le (Nat.le_refl _) (by omega)) q
    | succ m ih =>
      intro j hj
      have i1 := ih (j + 1) (by omega)
      rw [show gp w G (j + 1) = 3 * gp w G j + dg w (11 * G + j) from rfl] at i1
      generalize hk : 11 * G + j = k at i1 ⊢
      have hk33 : k < 33 := by omega
      have hv := h1 k hk33
      have l1 := hw k hk33
      have l3 := hr k hk33
      have l2 := ah_le hw hk33
      have b1 := gp_b hw hG (show j ≤ 11 by omega)
      have step : ma_J l g x none me_Mod_group pr_Mod_group (fun v S' h' => v = some (.int (nI (gp w G 11))) ∧ S' = GS ∧ h' = h) 24 [some (.ref 184), some (.int (nI G)), some (.int (nI (gp w G j))), some (.int (nI k)), some (.int (nI (ah w k)))] [] 0 0 GS h := by
        refine ma_run0 po_Mod_group rfl rfl [6] 60 ?_
        simp only [pa_Mod_group, ma_go, ev_A, ev_B, ev_C, ev_D, Nat.reduceAdd, List.mem_cons, List.not_mem_nil, or_false, or_true, true_or, false_or, or_self, Nat.reduceEqDiff, reduceCtorEq, ↓reduceIte, List.length_cons, List.length_nil, Nat.reduceLT, Nat.reduceLeDiff, Nat.le_refl, implies_true, true_and, and_true, Option.toList, List.cons_append, List.nil_append, pt_Mod hp, gs_184]
        rw [nI_clamp (n := k) (by omega), hv, pk_mul]
        simp only [nI_add]
        refine ⟨ma_in_of gs_192 hk33 (by decide), fun q => ?_, fun q => ?_⟩
        · have := (nI_leI (by omega) (by omega)).mp q
          rw [nx_sub' (by omega), nI_add]
          rw [dg, if_neg (by omega)] at i1
          exact ⟨ma_in_of gs_192 hk33 (by decide), ma_J.less i1 ⟨rfl, rfl, rfl, by rw [← hk]; rfl, trivial⟩⟩
        · rw [dg, if_pos (Nat.lt_of_not_le (fun z => q (nI_le z (by omega))))] at i1
          exact ⟨ma_in_of gs_192 hk33 (by decide), ma_J.less i1 ⟨rfl, rfl, rfl, by rw [← hk]; rfl, trivial⟩⟩
      refine ma_run0 po_Mod_group rfl rfl [6, 24] 60 ?_
      simp only [pa_Mod_group, ma_go, ev_A, ev_B, ev_C, ev_D, Nat.reduceAdd, List.mem_cons, List.not_mem_nil, or_false, or_true, true_or, false_or, or_self, Nat.reduceEqDiff, reduceCtorEq, ↓reduceIte, List.length_cons, List.length_nil, Nat.reduceLT, Nat.reduceLeDiff, Nat.le_refl, implies_true, true_and, and_true, Option.toList, List.cons_append, List.nil_append, pt_Mod hp, gs_184]
      rw [pk_mul, nI_add]
      refine ⟨fun q => absurd q (nI_ge (by omega) (by omega)), fun _ => ⟨fun q => ?_, fun q => ?_⟩⟩
      · have k0 : k ≠ 0 := fun e => q (by rw [e])
        rw [nx_sub' (by omega), nI_clamp (n := k - 1) (by omega), h1 (k - 1) (by omega)]
        rw [ah, if_neg k0] at step
        exact ⟨ma_in_of gs_192 (by omega) (by decide), step⟩
      · have k0 : k = 0 := (nI_eq (by omega) (by omega)).mp q
        rw [ah, if_pos k0] at step
        exact step
  refine ma_run0 po_Mod_group rfl rfl [6] 60 ?_
  simp only [pa_Mod_group, ma_go, ev_A, ev_B, ev_C, ev_D, Nat.reduceAdd, List.mem_cons, List.not_mem_nil, or_false, or_true, true_or, false_or, or_self, Nat.reduceEqDiff, reduceCtorEq, ↓reduceIte, List.length_cons, List.length_nil, Nat.reduceLT, Nat.reduceLeDiff, Nat.le_refl, implies_true, true_and, and_true, Option.toList, List.cons_append, List.nil_append]
  rw [pk_mul]
  exact loop 11 0 (by omega)
theorem m_most (l : Launch) (g : ma_G) (x : Bool) {h : ma_H} (hp : pt_ok h) {r : Nat → Nat} {a : Nat} (ha : a + 3 ≤ 60) (hw : ∀ k, k < 3 → r (a + k) < 4 ∧ h.1 193 (a + k) = nI (r (a + k))) : ma_PM l g x me_Mod_most [.ref 184, .int (nI a)] GS h (fun v S' h' => v = some (.int (oI (mj (r a) (r (a + 1)) (r (a + 2))))) ∧ S' = GS ∧ h' = h) := by
  refine ma_PM_of (P := pr_Mod_most) (by decide) rfl (Nat.le_of_ble_eq_true rfl) ?_
  show ma_J l g x none me_Mod_most pr_Mod_most _ 0 [some (.ref 184), some (.int (nI a)), none, none, none] [] 0 0 GS h
  have c3 : ∀ n, gf_cn 3 (fun i => r (a + i) == n) = zb (r a == n) + zb (r (a + 1) == n) + zb (r (a + 2) == n) := fun n => by
    show 0 + _ + _ + _ = _
    rw [Nat.zero_add]
    rfl
  have loop : ∀ m n, n + m = 4 → (∀ y, y < n → mj (r a) (r (a + 1)) (r (a + 2)) ≠ some y) → ma_J l g x none me_Mod_most pr_Mod_most (fun v S' h' => v = some (.int (oI (mj (r a) (r (a + 1)) (r (a + 2))))) ∧ S' = GS ∧ h' = h) 2 [some (.ref 184), some (.int (nI a)), some (.int (nI n)), none, none] [] 0 0 GS h := by
    intro m
    induction m with
    | zero =>
      intro n hn hno
      have e : n = 4 := by omega
      subst e
      have hm : mj (r a) (r (a + 1)) (r (a + 2)) = none := by
        cases q : mj (r a) (r (a + 1)) (r (a + 2)) with
        | none => rfl
        | some y => exact absurd q (hno y (mj_lt (hw 0 (by omega)).1 (hw 1 (by omega)).1 q))
      refine ma_run0 po_Mod_most rfl rfl [2, 9] 60 ?_
      simp only [pa_Mod_most, ma_go, ev_A, ev_B, ev_C, ev_D, Nat.reduceAdd, List.mem_cons, List.not_mem_nil, or_false, or_true, true_or, false_or, or_self, Nat.reduceEqDiff, reduceCtorEq, ↓reduceIte, List.length_cons, List.length_nil, Nat.reduceLT, Nat.reduceLeDiff, Nat.le_refl, implies_true, true_and, and_true, Option.toList, List.cons_append, List.nil_append, pt_Mod hp, gs_184]
      rw [hm]
      exact ⟨fun _ => rfl, fun q => absurd (nI_le (Nat.le_refl _) (by omega)) q⟩
    | succ m ih =>
      intro n hn hno
      have inner : ∀ q k, k + q = 3 → ma_J l g x none me_Mod_most pr_Mod_most (fun v S' h' => v = some (.int (oI (mj (r a) (r (a + 1)) (r (a + 2))))) ∧ S' = GS ∧ h' = h) 9 [some (.ref 184), some (.int (nI a)), some (.int (nI n)), some (.int (nI (gf_cn k (fun i => r (a + i) == n)))), some (.int (nI (a + k)))] [] 0 0 GS h := by
        intro q
        induction q with
        | zero =>
          intro k hk
          have e : k = 3 := by omega
          subst e
          have b3 := gf_cn_n (fun i => r (a + i) == n) 3
          refine ma_run0 po_Mod_most rfl rfl [2, 9] 60 ?_
          simp only [pa_Mod_most, ma_go, ev_A, ev_B, ev_C, ev_D, Nat.reduceAdd, List.mem_cons, List.not_mem_nil, or_false, or_true, true_or, false_or, or_self, Nat.reduceEqDiff, reduceCtorEq, ↓reduceIte, List.length_cons, List.length_nil, Nat.reduceLT, Nat.reduceLeDiff, Nat.le_refl, implies_true, true_and, and_true, Option.toList, List.cons_append, List.nil_append, pt_Mod hp, gs_184]
          rw [nI_add]
          refine ⟨fun _ => ⟨fun q => ?_, fun q => ?_⟩, fun q => absurd (nI_le (Nat.le_refl _) (by omega)) q⟩
          · have c := (nI_leI (by omega) (by omega)).mp q
            rw [c3] at c
            rw [nx_1]
            refine ma_J.less (ih (n + 1) (by omega) (fun y hy => ?_)) ⟨rfl, rfl, rfl, trivial⟩
            by_cases e : y = n
            · rw [e]
              exact fun z => by have := mj_cn.mpr z; omega
            · exact hno y (by omega)
          · have c : 1 < gf_cn 3 (fun i => r (a + i) == n) := Nat.lt_of_not_le (fun z => q (nI_le z (by omega)))
            rw [c3] at c
            rw [mj_cn.mp c]
            rfl
        | succ q ih2 =>
          intro k hk
          have i1 := ih2 (k + 1) (by omega)
          rw [gf_cn] at i1
          obtain ⟨w1, w2⟩ := hw k (by omega)
          refine ma_run0 po_Mod_most rfl rfl [2, 9] 60 ?_
          simp only [pa_Mod_most, ma_go, ev_A, ev_B, ev_C, ev_D, Nat.reduceAdd, List.mem_cons, List.not_mem_nil, or_false, or_true, true_or, false_or, or_self, Nat.reduceEqDiff, reduceCtorEq, ↓reduceIte, List.length_cons, List.length_nil, Nat.reduceLT, Nat.reduceLeDiff, Nat.le_refl, implies_true, true_and, and_true, Option.toList, List.cons_append, List.nil_append, pt_Mod hp, gs_184]
          rw [nI_clamp (n := a + k) (by omega), w2]
          simp only [nI_add]
          refine ⟨fun q => absurd q (nI_ge (by omega) (by omega)), fun _ => ⟨ma_in_of gs_193 (by omega) (by decide), fun q => ?_, fun q => ?_⟩⟩
          · rw [if_neg (fun z => q (by rw [beq_iff_eq.mp z]))] at i1
            exact i1
          · rw [if_pos (beq_iff_eq.mpr ((nI_eq (by omega) (by omega)).mp q))] at i1
            exact i1
      refine ma_run0 po_Mod_most rfl rfl [2, 9] 60 ?_
      simp only [pa_Mod_most, ma_go, ev_A, ev_B, ev_C, ev_D, Nat.reduceAdd, List.mem_cons, List.not_mem_nil, or_false, or_true, true_or, false_or, or_self, Nat.reduceEqDiff, reduceCtorEq, ↓reduceIte, List.length_cons, List.length_nil, Nat.reduceLT, Nat.reduceLeDiff, Nat.le_refl, implies_true, true_and, and_true, Option.toList, List.cons_append, List.nil_append, pt_Mod hp, gs_184]
      exact ⟨fun q => absurd q (nI_ge (by omega) (by omega)), fun _ => inner 3 0 (by omega)⟩
  refine ma_run0 po_Mod_most rfl rfl [2] 60 ?_
  simp only [pa_Mod_most, ma_go, ev_A, ev_B, ev_C, ev_D, Nat.reduceAdd, List.mem_cons, List.not_mem_nil, or_false, or_true, true_or, false_or, or_self, Nat.reduceEqDiff, reduceCtorEq, ↓reduceIte, List.length_cons, List.length_nil, Nat.reduceLT, Nat.reduceLeDiff, Nat.le_refl, implies_true, true_and, and_true, Option.toList, List.cons_append, List.nil_append]
  exact loop 4 0 (by omega) (fun y hy => by omega)
def sl (B : Nat) (w : Nat → Nat) : Option Nat := if (∀ k, k < 33 → w k ≠ ah w k) ∧ (∀ g, g < 3 → gp w g 11 < 65536) ∧ gp w 0 11 / 256 < B ∧ gp w 0 11 % 256 < 16 then some (16 * (gp w 0 11 / 256) + gp w 0 11 % 256) else none
theorem m_slot (l : Launch) (g : ma_G) (x : Bool) {h : ma_H} (hp : pt_ok h) {w : Nat → Nat} (hw : wf w) (h1 : ar h 192 33 w) {B : Nat} (hB : B ≤ 4) : ma_PM l g x me_Mod_slot [.ref 184, .int (nI B)] GS h (fun v S' h' => v = some (.int (oI (sl B w))) ∧ S' = GS ∧ h' = h) := by
  refine ma_PM_of (P := pr_Mod_slot) (by decide) rfl (Nat.le_of_ble_eq_true rfl) ?_
  show ma_J l g x none me_Mod_slot pr_Mod_slot _ 0 [some (.ref 184), some (.int (nI B)), none] [] 0 0 GS h
  have b1 := fun G hG => gp_b hw (g := G) hG (Nat.le_refl 11)
  have grp : (∀ k, k < 33 → w k ≠ ah w k) → ∀ m G, G + m = 3 → (∀ y, y < G → gp w y 11 < 65536) → ma_J l g x none me_Mod_slot pr_Mod_slot (fun v S' h' => v = some (.int (oI (sl B w))) ∧ S' = GS ∧ h' = h) 26 [some (.ref 184), some (.int (nI B)), some (.int (nI G))] [] 0 0 GS h := by
    intro hr m
    induction m with
    | zero =>
      intro G hG hy
      have e : G = 3 := by omega
      subst e
      have b0 := b1 0 (by omega)
      refine ma_run0 po_Mod_slot rfl rfl [26] 60 ?_
      simp only [pa_Mod_slot, ma_go, ev_A, ev_B, ev_C, ev_D, Nat.reduceAdd, List.mem_cons, List.not_mem_nil, or_false, or_true, true_or, false_or, or_self, Nat.reduceEqDiff, reduceCtorEq, ↓reduceIte, List.length_cons, List.length_nil, Nat.reduceLT, Nat.reduceLeDiff, Nat.le_refl, implies_true, true_and, and_true, Option.toList, List.cons_append, List.nil_append, gs_184]
      refine ⟨fun _ => ?_, fun q => absurd (nI_le (Nat.le_refl _) (by omega)) q⟩
      refine ma_callD mt_Mod_group rfl rfl (Nat.le_of_ble_eq_true rfl) (Nat.le_refl _) (Nat.le_refl _) (m_group l g x hp hw h1 hr (by omega)) ?_
      simp only [pa_Mod_slot, ma_go, ev_A, ev_B, ev_C, ev_D, Nat.reduceAdd, List.mem_cons, List.not_mem_nil, or_false, or_true, true_or, false_or, or_self, Nat.reduceEqDiff, reduceCtorEq, ↓reduceIte, List.length_cons, List.length_nil, Nat.reduceLT, Nat.reduceLeDiff, Nat.le_refl, implies_true, true_and, and_true, Option.toList, List.cons_append, List.nil_append, gs_184]
      rw [pk_div (by omega) (by omega) (by omega), ma_irem_nI (by omega) (by omega) (by omega), pk_mul, nI_add]
      have n0 : ¬ nI 256 = 0 := nx_ne0 (by decide) (by decide)
      have b3 : gp w 0 11 / 256 < 1000 := by omega
      refine ⟨n0, fun q => ?_, fun q => ⟨n0, fun q2 => ?_, fun q2 => ⟨n0, n0, ?_⟩⟩⟩
      · have := (nI_leI (by omega) (by omega)).mp q
        rw [show sl B w = none from if_neg (fun z => by have := z.2.2.1; omega)]
        rfl
      · have := (nI_leI (by omega) (by omega)).mp q2
        rw [show sl B w = none from if_neg (fun z => by have := z.2.2.2; omega)]
        rfl
      · rw [show sl B w = some _ from if_pos ⟨hr, hy, Nat.lt_of_not_le (fun z => q (nI_le z (by omega))), Nat.lt_of_not_le (fun z => q2 (nI_le z (by omega)))⟩]
        rfl
    | succ m ih =>
      intro G hG hy
      have b0 := b1 G (by omega)
      refine ma_run0 po_Mod_slot rfl rfl [26] 60 ?_
      simp only [pa_Mod_slot, ma_go, ev_A, ev_B, ev_C, ev_D, Nat.reduceAdd, List.mem_cons, List.not_mem_nil, or_false, or_true, true_or, false_or, or_self, Nat.reduceEqDiff, reduceCtorEq, ↓reduceIte, List.length_cons, List.length_nil, Nat.reduceLT, Nat.reduceLeDiff, Nat.le_refl, implies_true, true_and, and_true, Option.toList, List.cons_append, List.nil_append, gs_184]
      refine ⟨fun q => absurd q (nI_ge (by omega) (by omega)), fun _ => ?_⟩
      refine ma_callD mt_Mod_group rfl rfl (Nat.le_of_ble_eq_true rfl) (Nat.le_refl _) (Nat.le_refl _) (m_group l g x hp hw h1 hr (by omega)) ?_
      simp only [pa_Mod_slot, ma_go, ev_A, ev_B, ev_C, ev_D, Nat.reduceAdd, List.mem_cons, List.not_mem_nil, or_false, or_true, true_or, false_or, or_self, Nat.reduceEqDiff, reduceCtorEq, ↓reduceIte, List.length_cons, List.length_nil, Nat.reduceLT, Nat.reduceLeDiff, Nat.le_refl, implies_true, true_and, and_true, Option.toList, List.cons_append, List.nil_append, gs_184]
      refine ⟨fun q => ?_, fun q => ?_⟩
      · rw [nx_1]
        exact ih (G + 1) (by omega) (fun y hy2 => by by_cases e : y = G; (rw [e]; have := (nI_leI (by omega) (by omega)).mp q; omega); (exact hy y (by omega)))
      · rw [show sl B w = none from if_neg (fun z => q (nI_le (by have := z.2.1 G (by omega); omega) (by omega)))]
        rfl
  have loop : ∀ m k, k + m = 33 → (∀ y, y < k → w y ≠ ah w y) → ma_J l g x none me_Mod_slot pr_Mod_slot (fun v S' h' => v = some (.int (oI (sl B w))) ∧ S' = GS ∧ h' = h) 2 [some (.ref 184), some (.int (nI B)), some (.int (nI k))] [] 0 0 GS h := by
    intro m
    induction m with
    | zero =>
      intro k hk hy
      have e : k = 33 := by omega
      subst e
      refine ma_run0 po_Mod_slot rfl rfl [2, 26] 60 ?_
      simp only [pa_Mod_slot, ma_go, ev_A, ev_B, ev_C, ev_D, Nat.reduceAdd, List.mem_cons, List.not_mem_nil, or_false, or_true, true_or, false_or, or_self, Nat.reduceEqDiff, reduceCtorEq, ↓reduceIte, List.length_cons, List.length_nil, Nat.reduceLT, Nat.reduceLeDiff, Nat.le_refl, implies_true, true_and, and_true, Option.toList, List.cons_append, List.nil_append, pt_Mod hp, gs_184]
      exact ⟨fun _ => grp hy 3 0 (by omega) (fun y hy => by omega), fun q => absurd (nI_le (Nat.le_refl _) (by omega)) q⟩
    | succ m ih =>
      intro k hk hy
      have i1 := ih (k + 1) (by omega)
      have l1 := hw k (by omega)
      have l2 := ah_le hw (show k < 33 by omega)
      have st : ∀ q : nI (w k) = nI (ah w k), sl B w = none := fun q => if_neg (fun z => z.1 k (by omega) ((nI_eq (by omega) (by omega)).mp q))
      have st2 : ∀ q : ¬ nI (w k) = nI (ah w k), ∀ y, y < k + 1 → w y ≠ ah w y := fun q y hy2 => by
        by_cases e : y = k
        · rw [e]; exact fun z => q (by rw [z])
        · exact hy y (by omega)
      refine ma_run0 po_Mod_slot rfl rfl [2, 26] 60 ?_
      simp only [pa_Mod_slot, ma_go, ev_A, ev_B, ev_C, ev_D, Nat.reduceAdd, List.mem_cons, List.not_mem_nil, or_false, or_true, true_or, false_or, or_self, Nat.reduceEqDiff, reduceCtorEq, ↓reduceIte, List.length_cons, List.length_nil, Nat.reduceLT, Nat.reduceLeDiff, Nat.le_refl, implies_true, true_and, and_true, Option.toList, List.cons_append, List.nil_append, pt_Mod hp, gs_184]
      rw [nI_clamp (n := k) (by omega), h1 k (by omega), nx_1]
      refine ⟨fun q => absurd q (nI_ge (by omega) (by omega)), fun _ => ⟨ma_in_of gs_192 (by omega) (by decide), fun q => ?_, fun q => ?_⟩⟩
      · have k0 : k ≠ 0 := fun e => q (by rw [e])
        rw [nx_sub' (by omega), nI_clamp (n := k - 1) (by omega), h1 (k - 1) (by omega)]
        rw [ah, if_neg k0] at st st2
        exact ⟨ma_in_of gs_192 (by omega) (by decide), fun q => i1 (st2 q), fun q => by rw [st q]; rfl⟩
      · have k0 : k = 0 := (nI_eq (by omega) (by omega)).mp q
        rw [ah, if_pos k0] at st st2
        exact ⟨fun q => i1 (st2 q), fun q => by rw [st q]; rfl⟩
  refine ma_run0 po_Mod_slot rfl rfl [2] 60 ?_
  simp only [pa_Mod_slot, ma_go, ev_A, ev_B, ev_C, ev_D, Nat.reduceAdd, List.mem_cons, List.not_mem_nil, or_false, or_true, true_or, false_or, or_self, Nat.reduceEqDiff, reduceCtorEq, ↓reduceIte, List.length_cons, List.length_nil, Nat.reduceLT, Nat.reduceLeDiff, Nat.le_refl, implies_true, true_and, and_true, Option.toList, List.cons_append, List.nil_append]
  exact loop 33 0 (by omega) (fun y hy => by omega)
