/-! the reference's isFound -/
def cd (n : Nat) (f : Nat → Nat) (i c : Nat) : Nat → Nat := if n = 45 then f else if n = 44 then ct f i c else gr f i
def cA (n : Nat) : Nat := if n = 45 then 1 else if n = 44 then 33 else 34
def cL (n : Nat) : Nat := if n = 44 then 4 else 1
theorem sm_ct (f : Nat → Nat) (i c : Nat) : ∀ m, sm m (ct f i c) = if m ≤ i then sm m f else sm (m - 1) f + c
  | 0 => by rw [if_pos (Nat.zero_le _)]; rfl
  | m + 1 => by
    rw [sm, sm_ct f i c m]
    by_cases h : m + 1 ≤ i
    · rw [if_pos h, if_pos (by omega), show ct f i c m = f m from if_pos (by omega)]
      rfl
    · rw [if_neg h]
      by_cases e : m = i
      · rw [if_pos (by omega), e, show ct f i c i = c from (if_neg (by omega)).trans (if_pos rfl)]
        rfl
      · rw [if_neg (by omega), show ct f i c m = f (m - 1) from (if_neg (by omega)).trans (if_neg e), show m + 1 - 1 = (m - 1) + 1 by omega]
        show sm (m - 1) f + c + f (m - 1) = sm (m - 1) f + f (m - 1) + c
        omega
theorem ct_ml {f : Nat → Nat} (hf : ∀ k, k < 32 → f k < 4) {i c s G : Nat} (hi : i < 33) (hc : c < 4) (h : okb (ct f i c) s G = true) : c = ml f s := by
  unfold okb at h
  rw [Bool.and_eq_true, beq_iff_eq, sm_ct, if_neg (by omega)] at h
  have b := sm_le (f := f) (c := 3) 32 (fun k hk => by have := hf k hk; omega)
  have h1 := h.1
  rw [show 33 - 1 = 32 from rfl] at h1
  unfold ml
  omega
theorem wd_yes {n : Nat} {f : Nat → Nat} (hn : 44 ≤ n ∧ n ≤ 46) (hf : ∀ k, k < n → f k < 4) {s G i c : Nat} (hd : du f n = some (s, G)) (hi : i < cA n) (hc : c < cL n) (h : okb (cd n f i c) s G = true) (hno : ∀ j, j < i → ∀ e, e < cL n → okb (cd n f j e) s G = false) : wd f n = some (cd n f i c) := by
  unfold wd
  rw [hd]
  show (if n = 45 then _ else if n = 44 then _ else _) = _
  by_cases h45 : n = 45
  · rw [if_pos h45]
    rw [cd, if_pos h45] at h ⊢
    rw [if_pos h]
  · rw [if_neg h45]
    rw [cA, if_neg h45] at hi
    by_cases h44 : n = 44
    · rw [if_pos h44] at hi
      rw [if_pos h44]
      rw [cL, if_pos h44] at hc
      rw [cd, if_neg h45, if_pos h44] at h ⊢
      have e := ct_ml (fun k hk => hf k (by omega)) hi hc h
      rw [e] at h
      rw [fi_at (P := fun i => okb (ct f i (ml f s)) s G) (i := i) (fun j hj => ?_) h hi, e]
      · rfl
      · have := hno j hj (ml f s) (by rw [cL, if_pos h44]; exact Nat.mod_lt _ (by decide))
        rw [cd, if_neg h45, if_pos h44] at this
        exact this
    · rw [if_neg h44] at hi
      rw [if_neg h44]
      rw [cd, if_neg h45, if_neg h44] at h ⊢
      rw [fi_at (P := fun i => okb (gr f i) s G) (i := i) (fun j hj => ?_) h hi]
      · rfl
      · have := hno j hj 0 (by rw [cL, if_neg h44]; decide)
        rw [cd, if_neg h45, if_neg h44] at this
        exact this
theorem wd_no {n : Nat} {f : Nat → Nat} {s G : Nat} (hd : du f n = some (s, G)) (hno : ∀ j, j < cA n → ∀ e, e < cL n → okb (cd n f j e) s G = false) : wd f n = none := by
  unfold wd
  rw [hd]
  show (if n = 45 then _ else if n = 44 then _ else _) = _
  by_cases h45 : n = 45
  · have := hno 0 (by rw [cA, if_pos h45]; decide) 0 (by rw [cL, if_neg (by omega)]; decide)
    rw [cd, if_pos h45] at this
    rw [if_pos h45, this]
    rfl
  · rw [if_neg h45]
    by_cases h44 : n = 44
    · rw [if_pos h44, fi_no (fun j hj => ?_)]
      · rfl
      · have := hno j (by rw [cA, if_neg h45, if_pos h44]; exact hj) (ml f s) (by rw [cL, if_pos h44]; exact Nat.mod_lt _ (by decide))
        rw [cd, if_neg h45, if_pos h44] at this
        exact this
    · rw [if_neg h44, fi_no (fun j hj => ?_)]
      · rfl
      · have := hno j (by rw [cA, if_neg h45, if_neg h44]; exact hj) 0 (by rw [cL, if_neg h44]; decide)
        rw [cd, if_neg h45, if_neg h44] at this
        exact this
theorem cd_wf {n : Nat} {f : Nat → Nat} (hn : 44 ≤ n ∧ n ≤ 46) (hf : ∀ k, k < n → f k < 4) {i c : Nat} (hc : c < 4) : wf (cd n f i c) := fun k hk => by
  unfold cd ct gr
  split
  · exact hf k (by omega)
  · split
    · dsimp only
      split
      · exact hf k (by omega)
      · split
        · exact hc
        · exact hf _ (by omega)
    · dsimp only
      split <;> exact hf _ (by omega)
abbrev fJ (l : Launch) (g : ma_G) (x : Bool) (Q : ma_P) : ma_K := ma_J l g x none me_Mod_isFound pr_Mod_isFound Q
section
variable {l : Launch} {g : ma_G} {x : Bool} {Q : ma_P} {n s G : Nat} {f : Nat → Nat}
set_option maxRecDepth 30000 in
theorem fo_fill {h0 : ma_H} (hp : pt_ok h0) (hn : 44 ≤ n ∧ n ≤ 46) (hr : ∀ k, k < n → h0.1 193 k = nI (f k)) {i c : Nat} (hi : i < 34)
    (hK : ∀ h, on h0 h [192] → ar h 192 33 (cd n f i c) → fJ l g x Q 130 [some (.ref 184), some (.int (nI n)), some (.int (nI (n - 12))), some (.int (nI s)), none, none, none, some (.int (nI G)), some (.int (nI i)), some (.int (nI c)), none] [] 0 0 GS h) :
    ∀ m k h, k + m = 33 → on h0 h [192] → ar h 192 k (cd n f i c) → fJ l g x Q 76 [some (.ref 184), some (.int (nI n)), some (.int (nI (n - 12))), some (.int (nI s)), none, none, none, some (.int (nI G)), some (.int (nI i)), some (.int (nI c)), some (.int (nI k))] [] 0 0 GS h := by
  intro m
  induction m with
  | zero =>
    intro k h hk ho ha
    have e : k = 33 := by omega
    subst e
    have t := ma_J.less (ls' := [some (.ref 184), some (.int (nI n)), some (.int (nI (n - 12))), some (.int (nI s)), none, none, none, some (.int (nI G)), some (.int (nI i)), some (.int (nI c)), some (.int (nI 33))]) (hK h ho ha) ⟨rfl, rfl, rfl, rfl, rfl, rfl, rfl, trivial⟩
    refine ma_run0 po_Mod_isFound rfl rfl [76, 130] 60 ?_
    simp only [pc_Mod_isFound_0, pc_Mod_isFound_1, pc_Mod_isFound_2, pc_Mod_isFound_3, ma_go, ev_A, ev_B, ev_C, ev_D, Nat.reduceAdd, List.mem_cons, List.not_mem_nil, or_false, or_true, true_or, false_or, or_self, Nat.reduceEqDiff, reduceCtorEq, ↓reduceIte, List.length_cons, List.length_nil, Nat.reduceLT, Nat.reduceLeDiff, Nat.le_refl, implies_true, true_and, and_true, Option.toList, List.cons_append, List.nil_append]
    exact ⟨fun _ => t, fun q => absurd (nI_le (Nat.le_refl _) (by omega)) q⟩
  | succ m ih =>
    intro k h hk ho ha
    have hp' := on_pt ho hp
    have st : ∀ v, v = nI (cd n f i c k) → fJ l g x Q 76 [some (.ref 184), some (.int (nI n)), some (.int (nI (n - 12))), some (.int (nI s)), none, none, none, some (.int (nI G)), some (.int (nI i)), some (.int (nI c)), some (.int (nI (k + 1)))] [] 0 0 GS (ma_uI h 192 k v) := fun v hv => by
      refine ih (k + 1) _ (by omega) (on_uI ho _ _ (by simp)) (fun j hj => ?_)
      by_cases e : j = k
      · rw [e, uI_same]; exact hv
      · rw [uI_ne (by omega)]; exact ha j (by omega)
    have hrr : ∀ j, j < n → h.1 193 j = nI (f j) := fun j hj => by rw [ho.2 193 (by decide)]; exact hr j hj
    have t1 := ma_in_of (i := k) gs_192 (by omega) (by decide)
    have n1 : ¬ nI 32 = nI 33 := by decide +kernel
    have n2 : ¬ nI 34 = nI 33 := by decide +kernel
    have n3 : ¬ nI 34 = nI 32 := by decide +kernel
    refine ma_run0 po_Mod_isFound rfl rfl [76, 130] 60 ?_
    simp only [pc_Mod_isFound_0, pc_Mod_isFound_1, pc_Mod_isFound_2, pc_Mod_isFound_3, ma_go, ev_A, ev_B, ev_C, ev_D, Nat.reduceAdd, List.mem_cons, List.not_mem_nil, or_false, or_true, true_or, false_or, or_self, Nat.reduceEqDiff, reduceCtorEq, ↓reduceIte, List.length_cons, List.length_nil, Nat.reduceLT, Nat.reduceLeDiff, Nat.le_refl, implies_true, true_and, and_true, Option.toList, List.cons_append, List.nil_append, pt_Mod hp', gs_184]
    rw [nx_1, nI_clamp (n := k) (by omega)]
    rcases (show n = 44 ∨ n = 45 ∨ n = 46 by omega) with rfl | rfl | rfl
    · simp only [Nat.reduceSub, n1, not_false_eq_true, true_implies, not_true_eq_false, false_implies, and_true, true_and]
      refine ⟨fun q => absurd q (nI_ge (by omega) (by omega)), fun _ => ⟨fun q => ⟨fun q2 => ?_, fun q2 => ?_⟩, fun q => ?_⟩⟩
      · have h1 := (nI_leI (by omega) (by omega)).mp q
        have h2 : k ≠ i := fun z => q2 (by rw [z])
        rw [nx_sub' (by omega), nI_clamp (n := k - 1) (by omega), hrr (k - 1) (by omega)]
        refine ⟨ma_in_of gs_193 (by omega) (by decide), t1, st _ ?_⟩
        show _ = nI (ct f i c k)
        rw [ct, if_neg (by omega), if_neg h2]
      · have h2 : k = i := (nI_eq (by omega) (by omega)).mp q2
        refine ⟨t1, st _ ?_⟩
        show _ = nI (ct f i c k)
        rw [ct, if_neg (by omega), if_pos h2]
      · have h1 : k < i := Nat.lt_of_not_le (fun z => q (nI_le z (by omega)))
        rw [hrr k (by omega)]
        refine ⟨ma_in_of gs_193 (by omega) (by decide), t1, st _ ?_⟩
        show _ = nI (ct f i c k)
        rw [ct, if_pos h1]
    · simp only [Nat.reduceSub, not_false_eq_true, true_implies, not_true_eq_false, false_implies, and_true, true_and]
      refine ⟨fun q => absurd q (nI_ge (by omega) (by omega)), fun _ => ?_⟩
      rw [hrr k (by omega)]
      exact ⟨ma_in_of gs_193 (by omega) (by decide), t1, st _ rfl⟩
    · simp only [Nat.reduceSub, n2, n3, not_false_eq_true, true_implies, not_true_eq_false, false_implies, and_true, true_and]
      refine ⟨fun q => absurd q (nI_ge (by omega) (by omega)), fun _ => ⟨fun q => ?_, fun q => ?_⟩⟩
      · have h1 := (nI_leI (by omega) (by omega)).mp q
        rw [nI_clamp (n := k + 1) (by omega), hrr (k + 1) (by omega)]
        refine ⟨ma_in_of gs_193 (by omega) (by decide), t1, st _ ?_⟩
        show _ = nI (gr f i k)
        rw [gr, if_neg (by omega)]
      · have h1 : k < i := Nat.lt_of_not_le (fun z => q (nI_le z (by omega)))
        rw [hrr k (by omega)]
        refine ⟨ma_in_of gs_193 (by omega) (by decide), t1, st _ ?_⟩
        show _ = nI (gr f i k)
        rw [gr, if_pos h1]
set_option maxRecDepth 30000 in
theorem fo_try {h0 : ma_H} (hp : pt_ok h0) (hn : 44 ≤ n ∧ n ≤ 46) (hf : ∀ k, k < n → f k < 4) (hr : ∀ k, k < n → h0.1 193 k = nI (f k)) (hs : s < 4) (hG : G < 33) {i : Nat} (hi : i < 34)
    (hY : ∀ h c, on h0 h [192] → c < cL n → okb (cd n f i c) s G = true → ar h 192 33 (cd n f i c) → Q (some (.int (nI 1))) GS h)
    (hK : ∀ h, on h0 h [192] → (∀ e, e < cL n → okb (cd n f i e) s G = false) → fJ l g x Q 142 [some (.ref 184), some (.int (nI n)), some (.int (nI (n - 12))), some (.int (nI s)), none, none, none, some (.int (nI G)), some (.int (nI i)), none, none] [] 0 0 GS h) :
    ∀ m c h, c + m = cL n → on h0 h [192] → (∀ e, e < c → okb (cd n f i e) s G = false) → fJ l g x Q 66 [some (.ref 184), some (.int (nI n)), some (.int (nI (n - 12))), some (.int (nI s)), none, none, none, some (.int (nI G)), some (.int (nI i)), some (.int (nI c)), none] [] 0 0 GS h := by
  have eL : (n = 44 → cL n = 4) ∧ (n ≠ 44 → cL n = 1) := ⟨fun e => if_pos e, fun e => if_neg e⟩
  intro m
  induction m with
  | zero =>
    intro c h hc ho hno
    have e : c = cL n := by omega
    subst e
    have t := ma_J.less (ls' := [some (.ref 184), some (.int (nI n)), some (.int (nI (n - 12))), some (.int (nI s)), none, none, none, some (.int (nI G)), some (.int (nI i)), some (.int (nI (cL n))), none]) (hK h ho hno) ⟨rfl, rfl, rfl, rfl, rfl, rfl, trivial⟩
    refine ma_run0 po_Mod_isFound rfl rfl [66, 76, 142] 60 ?_
    simp only [pc_Mod_isFound_0, pc_Mod_isFound_1, pc_Mod_isFound_2, pc_Mod_isFound_3, ma_go, ev_A, ev_B, ev_C, ev_D, Nat.reduceAdd, List.mem_cons, List.not_mem_nil, or_false, or_true, true_or, false_or, or_self, Nat.reduceEqDiff, reduceCtorEq, ↓reduceIte, List.length_cons, List.length_nil, Nat.reduceLT, Nat.reduceLeDiff, Nat.le_refl, implies_true, true_and, and_true, Option.toList, List.cons_append, List.nil_append]
    refine ⟨fun q => ⟨fun _ => t, fun q2 => absurd (nI_le ?_ (by omega)) q2⟩, fun q => ⟨fun _ => t, fun q2 => absurd (nI_le ?_ (by omega)) q2⟩⟩
    · rw [eL.2 (fun z => q (by rw [z]))]; exact Nat.le_refl _
    · have := (nI_eq (by omega) (by omega)).mp q
      rw [eL.1 (by omega)]; exact Nat.le_refl _
  | succ m ih =>
    intro c h hc ho hno
    have hp' := on_pt ho hp
    have c4 : c < 4 := by
      by_cases e : n = 44
      · have := eL.1 e; omega
      · have := eL.2 e; omega
    have fill : fJ l g x Q 76 [some (.ref 184), some (.int (nI n)), some (.int (nI (n - 12))), some (.int (nI s)), none, none, none, some (.int (nI G)), some (.int (nI i)), some (.int (nI c)), some (.int (nI 0))] [] 0 0 GS h := by
      refine fo_fill hp' hn (fun k hk => by rw [ho.2 193 (by decide)]; exact hr k hk) hi (fun h2 o2 a2 => ?_) 33 0 h (by omega) (on_rf h _) (fun j hj => by omega)
      have o3 := on_tr ho o2
      have hp2 := on_pt o3 hp
      have hw := cd_wf hn hf (i := i) c4
      have b1 : sm 33 (cd n f i c) % 4 < 4 := Nat.mod_lt _ (by decide)
      have b2 : sm 33 (ri (cd n f i c)) % 33 < 33 := Nat.mod_lt _ (by decide)
      have nxt : okb (cd n f i c) s G = false → fJ l g x Q 140 [some (.ref 184), some (.int (nI n)), some (.int (nI (n - 12))), some (.int (nI s)), none, none, none, some (.int (nI G)), some (.int (nI i)), some (.int (nI c)), none] [] 0 0 GS h2 := fun hb => by
        refine ma_run0 po_Mod_isFound rfl rfl [66] 60 ?_
        simp only [pc_Mod_isFound_0, pc_Mod_isFound_1, pc_Mod_isFound_2, pc_Mod_isFound_3, ma_go, ev_A, ev_B, ev_C, ev_D, Nat.reduceAdd, List.mem_cons, List.not_mem_nil, or_false, or_true, true_or, false_or, or_self, Nat.reduceEqDiff, reduceCtorEq, ↓reduceIte, List.length_cons, List.length_nil, Nat.reduceLT, Nat.reduceLeDiff, Nat.le_refl, implies_true, true_and, and_true, Option.toList, List.cons_append, List.nil_append]
        rw [nx_1]
        exact ih (c + 1) h2 (by omega) o3 (fun e he => by by_cases q : e = c; (rw [q]; exact hb); (exact hno e (by omega)))
      refine ma_run0 po_Mod_isFound rfl rfl [66, 140] 60 ?_
      simp only [pc_Mod_isFound_0, pc_Mod_isFound_1, pc_Mod_isFound_2, pc_Mod_isFound_3, ma_go, ev_A, ev_B, ev_C, ev_D, Nat.reduceAdd, List.mem_cons, List.not_mem_nil, or_false, or_true, true_or, false_or, or_self, Nat.reduceEqDiff, reduceCtorEq, ↓reduceIte, List.length_cons, List.length_nil, Nat.reduceLT, Nat.reduceLeDiff, Nat.le_refl, implies_true, true_and, and_true, Option.toList, List.cons_append, List.nil_append, gs_184]
      refine ma_callD mt_Mod_sum rfl rfl (Nat.le_of_ble_eq_true rfl) (Nat.le_refl _) (Nat.le_refl _) (m_sum l g x hp2 hw a2) ?_
      simp only [pc_Mod_isFound_0, pc_Mod_isFound_1, pc_Mod_isFound_2, pc_Mod_isFound_3, ma_go, ev_A, ev_B, ev_C, ev_D, Nat.reduceAdd, List.mem_cons, List.not_mem_nil, or_false, or_true, true_or, false_or, or_self, Nat.reduceEqDiff, reduceCtorEq, ↓reduceIte, List.length_cons, List.length_nil, Nat.reduceLT, Nat.reduceLeDiff, Nat.le_refl, implies_true, true_and, and_true, Option.toList, List.cons_append, List.nil_append, gs_184]
      refine ⟨fun q => ?_, fun q => ?_⟩
      · exact nxt (by unfold okb; rw [show (sm 33 (cd n f i c) % 4 == s) = false from beq_eq_false_iff_ne.mpr (fun z => q (by rw [z]))]; rfl)
      · have q1 := (nI_eq (by omega) (by omega)).mp q
        refine ma_callD mt_Mod_signature rfl rfl (Nat.le_of_ble_eq_true rfl) (Nat.le_refl _) (Nat.le_refl _) (m_signature l g x hp2 hw a2) ?_
        simp only [pc_Mod_isFound_0, pc_Mod_isFound_1, pc_Mod_isFound_2, pc_Mod_isFound_3, ma_go, ev_A, ev_B, ev_C, ev_D, Nat.reduceAdd, List.mem_cons, List.not_mem_nil, or_false, or_true, true_or, false_or, or_self, Nat.reduceEqDiff, reduceCtorEq, ↓reduceIte, List.length_cons, List.length_nil, Nat.reduceLT, Nat.reduceLeDiff, Nat.le_refl, implies_true, true_and, and_true, Option.toList, List.cons_append, List.nil_append, gs_184]
        refine ⟨fun q2 => ?_, fun q2 => ?_⟩
        · exact nxt (by unfold okb; rw [show (sm 33 (ri (cd n f i c)) % 33 == G) = false from beq_eq_false_iff_ne.mpr (fun z => q2 (by rw [z])), Bool.and_false])
        · have q3 := (nI_eq (by omega) (by omega)).mp q2
          exact hY h2 c o3 (by omega) (by unfold okb; rw [q1, q3]; simp) a2
    refine ma_run0 po_Mod_isFound rfl rfl [66, 76, 142] 60 ?_
    simp only [pc_Mod_isFound_0, pc_Mod_isFound_1, pc_Mod_isFound_2, pc_Mod_isFound_3, ma_go, ev_A, ev_B, ev_C, ev_D, Nat.reduceAdd, List.mem_cons, List.not_mem_nil, or_false, or_true, true_or, false_or, or_self, Nat.reduceEqDiff, reduceCtorEq, ↓reduceIte, List.length_cons, List.length_nil, Nat.reduceLT, Nat.reduceLeDiff, Nat.le_refl, implies_true, true_and, and_true, Option.toList, List.cons_append, List.nil_append]
    refine ⟨fun q => ⟨fun q2 => absurd q2 (nI_ge ?_ (by omega)), fun _ => fill⟩, fun q => ⟨fun q2 => absurd q2 (nI_ge ?_ (by omega)), fun _ => fill⟩⟩
    · have := eL.2 (fun z => q (by rw [z])); omega
    · omega
set_option maxRecDepth 30000 in
theorem fo_at {h0 : ma_H} (hp : pt_ok h0) (hn : 44 ≤ n ∧ n ≤ 46) (hf : ∀ k, k < n → f k < 4) (hr : ∀ k, k < n → h0.1 193 k = nI (f k)) (hs : s < 4) (hG : G < 33) (hd : du f n = some (s, G))
    (hY : ∀ h w, on h0 h [192] → wf w → wd f n = some w → ar h 192 33 w → Q (some (.int (nI 1))) GS h)
    (hN : ∀ h, on h0 h [192] → wd f n = none → Q (some (.int (nI 0))) GS h) :
    ∀ m i h, i + m = cA n → on h0 h [192] → (∀ j, j < i → ∀ e, e < cL n → okb (cd n f j e) s G = false) → fJ l g x Q 51 [some (.ref 184), some (.int (nI n)), some (.int (nI (n - 12))), some (.int (nI s)), none, none, none, some (.int (nI G)), some (.int (nI i)), none, none] [] 0 0 GS h := by
  have c4 : cL n ≤ 4 := by unfold cL; split <;> omega
  have eA : (n = 45 → cA n = 1) ∧ (n = 44 → cA n = 33) ∧ (n = 46 → cA n = 34) := ⟨fun e => if_pos e, fun e => (if_neg (by omega)).trans (if_pos e), fun e => (if_neg (by omega)).trans (if_neg (by omega))⟩
  have eB : nI (n - 12) = nI 33 ↔ n = 45 := by rw [nI_eq (by omega) (by omega)]; omega
  have eC : nI (n - 12) = nI 32 ↔ n = 44 := by rw [nI_eq (by omega) (by omega)]; omega
  intro m
  induction m with
  | zero =>
    intro i h hi ho hno
    have e : i = cA n := by omega
    have fin := hN h ho (wd_no hd (by rw [← e]; exact hno))
    refine ma_run0 po_Mod_isFound rfl rfl [51, 66] 60 ?_
    simp only [pc_Mod_isFound_0, pc_Mod_isFound_1, pc_Mod_isFound_2, pc_Mod_isFound_3, ma_go, ev_A, ev_B, ev_C, ev_D, Nat.reduceAdd, List.mem_cons, List.not_mem_nil, or_false, or_true, true_or, false_or, or_self, Nat.reduceEqDiff, reduceCtorEq, ↓reduceIte, List.length_cons, List.length_nil, Nat.reduceLT, Nat.reduceLeDiff, Nat.le_refl, implies_true, true_and, and_true, Option.toList, List.cons_append, List.nil_append]
    rw [eB, eC]
    exact ⟨fun a => ⟨fun b => ⟨fun _ => fin, fun q => absurd (nI_le (by omega) (by omega)) q⟩, fun b => ⟨fun _ => fin, fun q => absurd (nI_le (by omega) (by omega)) q⟩⟩, fun a => ⟨fun _ => fin, fun q => absurd (nI_le (by omega) (by omega)) q⟩⟩
  | succ m ih =>
    intro i h hi ho hno
    have i34 : i < 34 := by omega
    have inner : fJ l g x Q 66 [some (.ref 184), some (.int (nI n)), some (.int (nI (n - 12))), some (.int (nI s)), none, none, none, some (.int (nI G)), some (.int (nI i)), some (.int (nI 0)), none] [] 0 0 GS h := by
      refine fo_try hp hn hf hr hs hG i34 (fun h2 c o2 hc hk a2 => hY h2 _ o2 (cd_wf hn hf (by omega)) (wd_yes hn hf hd (by omega) hc hk hno) a2) (fun h2 o2 hn2 => ?_) (cL n) 0 h (by omega) ho (fun e he => by omega)
      refine ma_run0 po_Mod_isFound rfl rfl [51] 60 ?_
      simp only [pc_Mod_isFound_0, pc_Mod_isFound_1, pc_Mod_isFound_2, pc_Mod_isFound_3, ma_go, ev_A, ev_B, ev_C, ev_D, Nat.reduceAdd, List.mem_cons, List.not_mem_nil, or_false, or_true, true_or, false_or, or_self, Nat.reduceEqDiff, reduceCtorEq, ↓reduceIte, List.length_cons, List.length_nil, Nat.reduceLT, Nat.reduceLeDiff, Nat.le_refl, implies_true, true_and, and_true, Option.toList, List.cons_append, List.nil_append]
      rw [nx_1]
      exact ih (i + 1) h2 (by omega) o2 (fun j hj => by by_cases q : j = i; (rw [q]; exact hn2); (exact hno j (by omega)))
    refine ma_run0 po_Mod_isFound rfl rfl [51, 66] 60 ?_
    simp only [pc_Mod_isFound_0, pc_Mod_isFound_1, pc_Mod_isFound_2, pc_Mod_isFound_3, ma_go, ev_A, ev_B, ev_C, ev_D, Nat.reduceAdd, List.mem_cons, List.not_mem_nil, or_false, or_true, true_or, false_or, or_self, Nat.reduceEqDiff, reduceCtorEq, ↓reduceIte, List.length_cons, List.length_nil, Nat.reduceLT, Nat.reduceLeDiff, Nat.le_refl, implies_true, true_and, and_true, Option.toList, List.cons_append, List.nil_append]
    rw [eB, eC]
    exact ⟨fun a => ⟨fun b => ⟨fun q => absurd q (nI_ge (by omega) (by omega)), fun _ => inner⟩, fun b => ⟨fun q => absurd q (nI_ge (by omega) (by omega)), fun _ => inner⟩⟩, fun a => ⟨fun q => absurd q (nI_ge (by omega) (by omega)), fun _ => inner⟩⟩
end
theorem oI_lt {o : Option Nat} (h : ∀ v, o = some v → v < 4) (q : oI o < nI 0) : o = none := by
  cases o with
  | none => rfl
  | some v => exact absurd ((nI_ltI (by have := h v rfl; omega) (by omega)).mp q) (by omega)
theorem oI_ge {o : Option Nat} (q : ¬ oI o < nI 0) : ∃ v, o = some v := by
  cases o with
  | none => exact absurd (by decide +kernel) q
  | some v => exact ⟨v, rfl⟩
set_option maxRecDepth 30000 in
theorem m_isFound (l : Launch) (g : ma_G) (x : Bool) {h : ma_H} (hp : pt_ok h) {n : Nat} {f : Nat → Nat} (hn : 44 ≤ n ∧ n ≤ 46) (hf : ∀ k, k < n → f k < 4) (hr : ∀ k, k < n → h.1 193 k = nI (f k)) : ma_PM l g x me_Mod_isFound [.ref 184, .int (nI n)] GS h (fun v S' h' => S' = GS ∧ on h h' [192] ∧ ((v = some (.int (nI 1)) ∧ ∃ w, wf w ∧ wd f n = some w ∧ ar h' 192 33 w) ∨ (v = some (.int (nI 0)) ∧ wd f n = none))) := by
  refine ma_PM_of (P := pr_Mod_isFound) (by decide) rfl (Nat.le_of_ble_eq_true rfl) ?_
  show ma_J l g x none me_Mod_isFound pr_Mod_isFound _ 0 [some (.ref 184), some (.int (nI n)), none, none, none, none, none, none, none, none, none] [] 0 0 GS h
  generalize hQ : (fun (v : Option Value) (S' : ma_S) (h' : ma_H) => S' = GS ∧ on h h' [192] ∧ ((v = some (.int (nI 1)) ∧ ∃ w, wf w ∧ wd f n = some w ∧ ar h' 192 33 w) ∨ (v = some (.int (nI 0)) ∧ wd f n = none))) = Q
  have t1 : ∀ v, tl f (n - 12) = some v → v < 4 := fun v q => tl_lt (fun k hk => hf _ (by omega)) q
  have t2 : ∀ v, tl f (n - 12 + 3) = some v → v < 4 := fun v q => tl_lt (fun k hk => hf _ (by omega)) q
  have t3 : ∀ v, tl f (n - 12 + 6) = some v → v < 4 := fun v q => tl_lt (fun k hk => hf _ (by omega)) q
  have t4 : ∀ v, tl f (n - 12 + 9) = some v → v < 4 := fun v q => tl_lt (fun k hk => hf _ (by omega)) q
  have no : du f n = none → Q (some (.int (nI 0))) GS h := fun hd => by rw [← hQ]; exact ⟨rfl, on_rf h _, Or.inr ⟨rfl, by unfold wd; rw [hd]⟩⟩
  refine ma_run0 po_Mod_isFound rfl rfl [51] 80 ?_
  simp only [pc_Mod_isFound_0, pc_Mod_isFound_1, pc_Mod_isFound_2, pc_Mod_isFound_3, ma_go, ev_A, ev_B, ev_C, ev_D, Nat.reduceAdd, List.mem_cons, List.not_mem_nil, or_false, or_true, true_or, false_or, or_self, Nat.reduceEqDiff, reduceCtorEq, ↓reduceIte, List.length_cons, List.length_nil, Nat.reduceLT, Nat.reduceLeDiff, Nat.le_refl, implies_true, true_and, and_true, Option.toList, List.cons_append, List.nil_append, gs_184]
  rw [nx_sub' (by omega)]
  refine ma_callD mt_Mod_most rfl rfl (Nat.le_of_ble_eq_true rfl) (Nat.le_refl _) (Nat.le_refl _) (m_most l g x hp (r := f) (a := n - 12) (by omega) (fun k hk => ⟨hf _ (by omega), hr _ (by omega)⟩)) ?_
  simp only [pc_Mod_isFound_0, pc_Mod_isFound_1, pc_Mod_isFound_2, pc_Mod_isFound_3, ma_go, ev_A, ev_B, ev_C, ev_D, Nat.reduceAdd, List.mem_cons, List.not_mem_nil, or_false, or_true, true_or, false_or, or_self, Nat.reduceEqDiff, reduceCtorEq, ↓reduceIte, List.length_cons, List.length_nil, Nat.reduceLT, Nat.reduceLeDiff, Nat.le_refl, implies_true, true_and, and_true, Option.toList, List.cons_append, List.nil_append, gs_184]
  rw [nI_add]
  refine ma_callD mt_Mod_most rfl rfl (Nat.le_of_ble_eq_true rfl) (Nat.le_refl _) (Nat.le_refl _) (m_most l g x hp (r := f) (a := n - 12 + 3) (by omega) (fun k hk => ⟨hf _ (by omega), hr _ (by omega)⟩)) ?_
  simp only [pc_Mod_isFound_0, pc_Mod_isFound_1, pc_Mod_isFound_2, pc_Mod_isFound_3, ma_go, ev_A, ev_B, ev_C, ev_D, Nat.reduceAdd, List.mem_cons, List.not_mem_nil, or_false, or_true, true_or, false_or, or_self, Nat.reduceEqDiff, reduceCtorEq, ↓reduceIte, List.length_cons, List.length_nil, Nat.reduceLT, Nat.reduceLeDiff, Nat.le_refl, implies_true, true_and, and_true, Option.toList, List.cons_append, List.nil_append, gs_184]
  rw [nI_add]
  refine ma_callD mt_Mod_most rfl rfl (Nat.le_of_ble_eq_true rfl) (Nat.le_refl _) (Nat.le_refl _) (m_most l g x hp (r := f) (a := n - 12 + 6) (by omega) (fun k hk => ⟨hf _ (by omega), hr _ (by omega)⟩)) ?_
  simp only [pc_Mod_isFound_0, pc_Mod_isFound_1, pc_Mod_isFound_2, pc_Mod_isFound_3, ma_go, ev_A, ev_B, ev_C, ev_D, Nat.reduceAdd, List.mem_cons, List.not_mem_nil, or_false, or_true, true_or, false_or, or_self, Nat.reduceEqDiff, reduceCtorEq, ↓reduceIte, List.length_cons, List.length_nil, Nat.reduceLT, Nat.reduceLeDiff, Nat.le_refl, implies_true, true_and, and_true, Option.toList, List.cons_append, List.nil_append, gs_184]
  rw [nI_add]
  refine ma_callD mt_Mod_most rfl rfl (Nat.le_of_ble_eq_true rfl) (Nat.le_refl _) (Nat.le_refl _) (m_most l g x hp (r := f) (a := n - 12 + 9) (by omega) (fun k hk => ⟨hf _ (by omega), hr _ (by omega)⟩)) ?_
  simp only [pc_Mod_isFound_0, pc_Mod_isFound_1, pc_Mod_isFound_2, pc_Mod_isFound_3, ma_go, ev_A, ev_B, ev_C, ev_D, Nat.reduceAdd, List.mem_cons, List.not_mem_nil, or_false, or_true, true_or, false_or, or_self, Nat.reduceEqDiff, reduceCtorEq, ↓reduceIte, List.length_cons, List.length_nil, Nat.reduceLT, Nat.reduceLeDiff, Nat.le_refl, implies_true, true_and, and_true, Option.toList, List.cons_append, List.nil_append, gs_184]
  simp only [show ∀ s, mj (f s) (f (s + 1)) (f (s + 2)) = tl f s from fun _ => rfl]
  refine ⟨fun q => no ?_, fun q1 => ⟨fun q => no ?_, fun q2 => ⟨fun q => no ?_, fun q3 => ⟨fun q => no ?_, fun q4 => ?_⟩⟩⟩⟩
  · unfold du; rw [oI_lt t1 q]
  · unfold du; rw [oI_lt t2 q]; cases tl f (n - 12) <;> rfl
  · unfold du; rw [oI_lt t3 q]; cases tl f (n - 12) <;> cases tl f (n - 12 + 3) <;> rfl
  · unfold du; rw [oI_lt t4 q]; cases tl f (n - 12) <;> cases tl f (n - 12 + 3) <;> cases tl f (n - 12 + 6) <;> rfl
  · obtain ⟨v1, w1⟩ := oI_ge q1
    obtain ⟨v2, w2⟩ := oI_ge q2
    obtain ⟨v3, w3⟩ := oI_ge q3
    obtain ⟨v4, w4⟩ := oI_ge q4
    have z1 := t1 _ w1
    have z2 := t2 _ w2
    have z3 := t3 _ w3
    have z4 := t4 _ w4
    have hd : du f n = if 16 * v2 + 4 * v3 + v4 < 33 then some (v1, 16 * v2 + 4 * v3 + v4) else none := by unfold du; rw [w1, w2, w3, w4]
    rw [w1, w2, w3, w4, show oI (some v1) = nI v1 from rfl, show oI (some v2) = nI v2 from rfl, show oI (some v3) = nI v3 from rfl, show oI (some v4) = nI v4 from rfl, pk_mul, pk_mul, nI_add, nI_add]
    refine ⟨fun q => ?_, fun q => no ?_⟩
    · have h32 := (nI_leI (by omega) (by omega)).mp q
      rw [if_pos (by omega)] at hd
      refine ma_J.less (fo_at hp hn hf hr z1 (by omega) hd (fun h2 w o2 hw hwd a2 => by rw [← hQ]; exact ⟨rfl, o2, Or.inl ⟨rfl, w, hw, hwd, a2⟩⟩) (fun h2 o2 hwd => by rw [← hQ]; exact ⟨rfl, o2, Or.inr ⟨rfl, hwd⟩⟩) (cA n) 0 h (by omega) (on_rf h _) (fun j hj => by omega)) ⟨rfl, rfl, rfl, rfl, rfl, rfl, trivial⟩
    · have h32 : ¬ 16 * v2 + 4 * v3 + v4 ≤ 32 := fun z => q (nI_le z (by omega))
      rw [hd, if_neg (by omega)]
