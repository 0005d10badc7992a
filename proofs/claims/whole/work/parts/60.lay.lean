/-! the reference's lay -/
theorem nb4 : ∀ c, c < 4 → vp_nar .byte (nI c).toInt8.toInt32 = nI c := by decide +kernel
theorem nb4' : ∀ c, c < 4 → vp_nar .byte (nI c) = nI c := by decide +kernel
abbrev lJ (l : Launch) (g : ma_G) (x : Bool) (Q : ma_P) : ma_K := ma_J l g x none me_Mod_lay pr_Mod_lay Q
/-- the bytes from a on are the first i of f, the others as they were -/
def wt (o n : Nat → Int32) (a i : Nat) (f : Nat → Nat) : Prop := ∀ j, n j = if a ≤ j ∧ j < a + i then nI (f (j - a)) else o j
theorem wt_0 (o : Nat → Int32) (a : Nat) (f : Nat → Nat) : wt o o a 0 f := fun j => by rw [if_neg (by omega)]
theorem wt_s {h : ma_H} {o : Nat → Int32} {c a i : Nat} {f : Nat → Nat} {v : Int32} (hv : v = nI (f i)) (hw : wt o (h.1 c) a i f) : wt o ((ma_uI h c (a + i) v).1 c) a (i + 1) f := fun j => by
  by_cases e : j = a + i
  · rw [e, uI_same, if_pos (by omega), show a + i - a = i by omega, hv]
  · rw [uI_ne (fun z => e z.2), hw j]
    by_cases q : a ≤ j ∧ j < a + i
    · rw [if_pos q, if_pos (by omega)]
    · rw [if_neg q, if_neg (by omega)]
theorem ah_s (w : Nat → Nat) (i : Nat) : ah w (i + 1) = w i := by
  unfold ah
  rw [if_neg (Nat.succ_ne_zero i)]
  rfl
section
variable {l : Launch} {g : ma_G} {x : Bool} {Q : ma_P} {t b s : Nat} {V : Nat → Nat}
set_option maxRecDepth 30000 in
theorem ly_grp {h0 : ma_H} (hp : pt_ok h0) (ht : t < 64) {G : Nat} (hG : G < 3) (hV : V G < 65536) {o : Nat → Int32}
    (hK : ∀ h, on h0 h [186] → wt o (h.1 186) (45 * t) (11 * G + 11) (spw V) → lJ l g x Q 84 [some (.ref 184), some (.int (nI t)), some (.int (nI b)), some (.int (nI s)), some (.int (nI (45 * t + (11 * G + 11)))), some (.int (nI (ah (spw V) (11 * G + 11)))), some (.int (nI G)), none, none, none, none, none] [] 0 0 GS h) :
    ∀ m k h u y, k + m = 11 → on h0 h [186] → wt o (h.1 186) (45 * t) (11 * G + k) (spw V) → lJ l g x Q 51 [some (.ref 184), some (.int (nI t)), some (.int (nI b)), some (.int (nI s)), some (.int (nI (45 * t + (11 * G + k)))), some (.int (nI (ah (spw V) (11 * G + k)))), some (.int (nI G)), some (.int (nI (V G))), some (.int (nI (59049 / 3 ^ k))), some (.int (nI k)), u, y] [] 0 0 GS h := by
  intro m
  induction m with
  | zero =>
    intro k h u y hk ho hw
    have e : k = 11 := by omega
    subst e
    have t := ma_J.less (ls' := [some (.ref 184), some (.int (nI t)), some (.int (nI b)), some (.int (nI s)), some (.int (nI (45 * t + (11 * G + 11)))), some (.int (nI (ah (spw V) (11 * G + 11)))), some (.int (nI G)), some (.int (nI (V G))), some (.int (nI (59049 / 3 ^ 11))), some (.int (nI 11)), u, y]) (hK h ho hw) ⟨rfl, rfl, rfl, rfl, rfl, rfl, rfl, trivial⟩
    refine ma_run0 po_Mod_lay rfl rfl [51, 54, 84] 80 ?_
    simp only [pc_Mod_lay_0, pc_Mod_lay_1, pc_Mod_lay_2, pc_Mod_lay_3, ma_go, ev_A, ev_B, ev_C, ev_D, Nat.reduceAdd, List.mem_cons, List.not_mem_nil, or_false, or_true, true_or, false_or, or_self, Nat.reduceEqDiff, reduceCtorEq, ↓reduceIte, List.length_cons, List.length_nil, Nat.reduceLT, Nat.reduceLeDiff, Nat.le_refl, implies_true, true_and, and_true, Option.toList, List.cons_append, List.nil_append]
    exact ⟨fun _ => t, fun q => absurd (nI_le (Nat.le_refl _) (by omega)) q⟩
  | succ m ih =>
    intro k h u y hk ho hw
    have hp' := on_pt ho hp
    have p1 := p3_pos k (by omega)
    have p2 := p3_le k (by omega)
    have n3 : ¬ nI 3 = 0 := nx_ne0 (by decide) (by decide)
    have np : ¬ nI (59049 / 3 ^ k) = 0 := nx_ne0 p1 (by omega)
    have hd : spd V (11 * G + k) = V G / (59049 / 3 ^ k) % 3 := by
      unfold spd
      rw [show (11 * G + k) / 11 = G by omega, show (11 * G + k) % 11 = k by omega]
    have d3 : V G / (59049 / 3 ^ k) % 3 < 3 := Nat.mod_lt _ (by decide)
    have hq : V G / (59049 / 3 ^ k) < 65536 := Nat.lt_of_le_of_lt (Nat.div_le_self _ _) hV
    have a4 := ah_le (w := spw V) (fun i _ => spw_lt V i) (show 11 * G + k < 33 by omega)
    have se := spw_e V (11 * G + k)
    rw [hd] at se
    have t6 := ma_in_of (i := 45 * t + (11 * G + k)) gs_186 (by omega) (by decide)
    have go : ∀ c u y, c = spw V (11 * G + k) → lJ l g x Q 51 [some (.ref 184), some (.int (nI t)), some (.int (nI b)), some (.int (nI s)), some (.int (nI (45 * t + (11 * G + k) + 1))), some (.int (nI c)), some (.int (nI G)), some (.int (nI (V G))), some (.int (nI (59049 / 3 ^ (k + 1)))), some (.int (nI (k + 1))), u, y] [] 0 0 GS (ma_uI h 186 (45 * t + (11 * G + k)) (vp_nar .byte (nI c).toInt8.toInt32)) := by
      intro c u y hc
      have c4 : c < 4 := by rw [hc]; exact spw_lt _ _
      have i2 := ih (k + 1) (ma_uI h 186 (45 * t + (11 * G + k)) (vp_nar .byte (nI c).toInt8.toInt32)) u y (by omega) (on_uI ho _ _ (by simp)) (wt_s (by rw [nb4 c c4, hc]) hw)
      rw [show 11 * G + (k + 1) = 11 * G + k + 1 from rfl, ah_s, ← hc] at i2
      exact i2
    refine ma_run0 po_Mod_lay rfl rfl [51, 84] 80 ?_
    simp only [pc_Mod_lay_0, pc_Mod_lay_1, pc_Mod_lay_2, pc_Mod_lay_3, ma_go, ev_A, ev_B, ev_C, ev_D, Nat.reduceAdd, List.mem_cons, List.not_mem_nil, or_false, or_true, true_or, false_or, or_self, Nat.reduceEqDiff, reduceCtorEq, ↓reduceIte, List.length_cons, List.length_nil, Nat.reduceLT, Nat.reduceLeDiff, Nat.le_refl, implies_true, true_and, and_true, Option.toList, List.cons_append, List.nil_append, gs_184, pt_Mod hp']
    rw [pk_div (a := V G) (by omega) p1 (by omega), ma_irem_nI (by omega) (by omega) (by omega), pk_div (a := 59049 / 3 ^ k) (by omega) (by omega) (by omega), p3_st]
    simp only [nI_add]
    rw [nI_clamp (n := 45 * t + (11 * G + k)) (by omega)]
    refine ⟨fun q => absurd q (nI_ge (by omega) (by omega)), fun _ => ⟨np, n3, fun q => ⟨t6, n3, go _ _ _ ?_⟩, fun q => ⟨t6, n3, go _ _ _ ?_⟩⟩⟩
    · have q1 := (nI_leI (by omega) (by omega)).mp q
      rw [se]
      exact (if_neg (by omega)).symm
    · have q1 : V G / (59049 / 3 ^ k) % 3 < ah (spw V) (11 * G + k) := Nat.lt_of_not_le (fun z => q (nI_le z (by omega)))
      rw [se]
      exact (if_pos q1).symm
set_option maxRecDepth 30000 in
theorem ly_all {h0 : ma_H} (hp : pt_ok h0) (ht : t < 64) (hb : b < 4) (hs : s < 16) {c : Nat → Nat} (hc : ∀ k, k < 64 → c k < 256) (h1 : ar h0 195 64 c)
    (hK : ∀ h, on h0 h [186] → wt (h0.1 186) (h.1 186) (45 * t) 33 (spw (VV b s c)) → lJ l g x Q 86 [some (.ref 184), some (.int (nI t)), some (.int (nI b)), some (.int (nI s)), some (.int (nI (45 * t + 33))), none, none, none, none, none, none, none] [] 0 0 GS h) :
    ∀ m G h, G + m = 3 → on h0 h [186] → wt (h0.1 186) (h.1 186) (45 * t) (11 * G) (spw (VV b s c)) → lJ l g x Q 8 [some (.ref 184), some (.int (nI t)), some (.int (nI b)), some (.int (nI s)), some (.int (nI (45 * t + 11 * G))), some (.int (nI (ah (spw (VV b s c)) (11 * G)))), some (.int (nI G)), none, none, none, none, none] [] 0 0 GS h := by
  intro m
  induction m with
  | zero =>
    intro G h hG ho hw
    have e : G = 3 := by omega
    subst e
    have t := ma_J.less (ls' := [some (.ref 184), some (.int (nI t)), some (.int (nI b)), some (.int (nI s)), some (.int (nI (45 * t + 33))), some (.int (nI (ah (spw (VV b s c)) 33))), some (.int (nI 3)), none, none, none, none, none]) (hK h ho hw) ⟨rfl, rfl, rfl, rfl, rfl, trivial⟩
    refine ma_run0 po_Mod_lay rfl rfl [8, 11, 86] 80 ?_
    simp only [pc_Mod_lay_0, pc_Mod_lay_1, pc_Mod_lay_2, pc_Mod_lay_3, ma_go, ev_A, ev_B, ev_C, ev_D, Nat.reduceAdd, List.mem_cons, List.not_mem_nil, or_false, or_true, true_or, false_or, or_self, Nat.reduceEqDiff, reduceCtorEq, ↓reduceIte, List.length_cons, List.length_nil, Nat.reduceLT, Nat.reduceLeDiff, Nat.le_refl, implies_true, true_and, and_true, Option.toList, List.cons_append, List.nil_append]
    exact ⟨fun _ => t, fun q => absurd (nI_le (Nat.le_refl _) (by omega)) q⟩
  | succ m ih =>
    intro G h hG ho hw
    have hp' := on_pt ho hp
    have aft : ∀ v, v = VV b s c G → lJ l g x Q 51 [some (.ref 184), some (.int (nI t)), some (.int (nI b)), some (.int (nI s)), some (.int (nI (45 * t + 11 * G))), some (.int (nI (ah (spw (VV b s c)) (11 * G)))), some (.int (nI G)), some (.int (nI v)), some (.int (nI 59049)), some (.int (nI 0)), none, none] [] 0 0 GS h := by
      intro v hv
      subst hv
      refine ly_grp (V := VV b s c) (o := h0.1 186) hp' ht (show G < 3 by omega) (VV_lt hb hs hc (by omega)) (fun h2 o2 w2 => ?_) 11 0 h none none (by omega) (on_rf _ _) hw
      refine ma_run0 po_Mod_lay rfl rfl [8] 80 ?_
      simp only [pc_Mod_lay_0, pc_Mod_lay_1, pc_Mod_lay_2, pc_Mod_lay_3, ma_go, ev_A, ev_B, ev_C, ev_D, Nat.reduceAdd, List.mem_cons, List.not_mem_nil, or_false, or_true, true_or, false_or, or_self, Nat.reduceEqDiff, reduceCtorEq, ↓reduceIte, List.length_cons, List.length_nil, Nat.reduceLT, Nat.reduceLeDiff, Nat.le_refl, implies_true, true_and, and_true, Option.toList, List.cons_append, List.nil_append]
      rw [nx_1]
      exact ih (G + 1) h2 (by omega) (on_tr ho o2) w2
    have a1 := ar_on ho (by decide) h1
    refine ma_run0 po_Mod_lay rfl rfl [8, 51, 86] 80 ?_
    simp only [pc_Mod_lay_0, pc_Mod_lay_1, pc_Mod_lay_2, pc_Mod_lay_3, ma_go, ev_A, ev_B, ev_C, ev_D, Nat.reduceAdd, List.mem_cons, List.not_mem_nil, or_false, or_true, true_or, false_or, or_self, Nat.reduceEqDiff, reduceCtorEq, ↓reduceIte, List.length_cons, List.length_nil, Nat.reduceLT, Nat.reduceLeDiff, Nat.le_refl, implies_true, true_and, and_true, Option.toList, List.cons_append, List.nil_append, gs_184, pt_Mod hp']
    simp only [pk_mul, nI_add]
    refine ⟨fun q => absurd q (nI_ge (by omega) (by omega)), fun _ => ⟨fun q => ?_, fun q => ?_⟩⟩
    · have g0 : G ≠ 0 := fun z => q (by rw [z])
      rw [nx_sub' (show 2 ≤ 4 * s + 2 * G by omega), nx_sub' (show 1 ≤ 4 * s + 2 * G by omega), nI_clamp (n := 4 * s + 2 * G - 2) (by omega), nI_clamp (n := 4 * s + 2 * G - 1) (by omega), a1 _ (by omega), a1 _ (by omega), pk_mul, nI_add]
      refine ⟨ma_in_of gs_195 (by omega) (by decide), ma_in_of gs_195 (by omega) (by decide), aft _ ?_⟩
      unfold VV
      rw [if_neg g0]
    · have g0 := (nI_eq (by omega) (by omega)).mp q
      refine aft _ ?_
      unfold VV
      rw [if_pos g0]
set_option maxRecDepth 30000 in
theorem ly_word {h0 : ma_H} (hp : pt_ok h0) (ht : t < 64) {B S A : Int32}
    (hK : ∀ h, on h0 h [192] → (∀ i, i < 33 → h.1 192 i = h0.1 186 (45 * t + i)) → lJ l g x Q 105 [some (.ref 184), some (.int (nI t)), some (.int B), some (.int S), some (.int A), none, none, none, none, none, none, none] [] 0 0 GS h) :
    ∀ m k h, k + m = 33 → on h0 h [192] → (∀ i, i < k → h.1 192 i = h0.1 186 (45 * t + i)) → lJ l g x Q 88 [some (.ref 184), some (.int (nI t)), some (.int B), some (.int S), some (.int A), none, some (.int (nI k)), none, none, none, none, none] [] 0 0 GS h := by
  intro m
  induction m with
  | zero =>
    intro k h hk ho ha
    have e : k = 33 := by omega
    subst e
    have t := ma_J.less (ls' := [some (.ref 184), some (.int (nI t)), some (.int B), some (.int S), some (.int A), none, some (.int (nI 33)), none, none, none, none, none]) (hK h ho ha) ⟨rfl, rfl, rfl, rfl, rfl, trivial⟩
    refine ma_run0 po_Mod_lay rfl rfl [88, 91, 105] 80 ?_
    simp only [pc_Mod_lay_0, pc_Mod_lay_1, pc_Mod_lay_2, pc_Mod_lay_3, ma_go, ev_A, ev_B, ev_C, ev_D, Nat.reduceAdd, List.mem_cons, List.not_mem_nil, or_false, or_true, true_or, false_or, or_self, Nat.reduceEqDiff, reduceCtorEq, ↓reduceIte, List.length_cons, List.length_nil, Nat.reduceLT, Nat.reduceLeDiff, Nat.le_refl, implies_true, true_and, and_true, Option.toList, List.cons_append, List.nil_append]
    exact ⟨fun _ => t, fun q => absurd (nI_le (Nat.le_refl _) (by omega)) q⟩
  | succ m ih =>
    intro k h hk ho ha
    have i2 := ih (k + 1) (ma_uI h 192 k (h.1 186 (45 * t + k))) (by omega) (on_uI ho _ _ (by simp)) (fun i hi => by
      by_cases e : i = k
      · rw [e, uI_same, ho.2 186 (by decide)]
      · rw [uI_ne (fun z => e z.2)]; exact ha i (by omega))
    refine ma_run0 po_Mod_lay rfl rfl [88, 105] 80 ?_
    simp only [pc_Mod_lay_0, pc_Mod_lay_1, pc_Mod_lay_2, pc_Mod_lay_3, ma_go, ev_A, ev_B, ev_C, ev_D, Nat.reduceAdd, List.mem_cons, List.not_mem_nil, or_false, or_true, true_or, false_or, or_self, Nat.reduceEqDiff, reduceCtorEq, ↓reduceIte, List.length_cons, List.length_nil, Nat.reduceLT, Nat.reduceLeDiff, Nat.le_refl, implies_true, true_and, and_true, Option.toList, List.cons_append, List.nil_append, gs_184, pt_Mod (on_pt ho hp)]
    simp only [pk_mul, nI_add]
    rw [nI_clamp (n := 45 * t + k) (by omega), nI_clamp (n := k) (by omega)]
    exact ⟨fun q => absurd q (nI_ge (by omega) (by omega)), fun _ => ⟨ma_in_of gs_186 (by omega) (by decide), ma_in_of gs_192 (by omega) (by decide), i2⟩⟩
set_option maxRecDepth 30000 in
theorem ly_tail {h0 : ma_H} (hp : pt_ok h0) (ht : t < 64) {w : Nat → Nat} (hw : wf w) (h2 : ar h0 192 33 w) {B S : Int32} {o : Nat → Int32}
    (hK : ∀ h, on h0 h [186] → wt o (h.1 186) (45 * t) 45 (stl w) → Q none GS h) :
    ∀ m k h y, k + m = 12 → on h0 h [186] → wt o (h.1 186) (45 * t) (33 + k) (stl w) → lJ l g x Q 110 [some (.ref 184), some (.int (nI t)), some (.int B), some (.int S), some (.int (nI (45 * t + 33))), none, some (.int (nI (sm 33 (ri w) % 33))), some (.int (nI k)), y, none, none, none] [] 0 0 GS h := by
  have sg := Nat.mod_lt (sm 33 (ri w)) (show 33 > 0 by decide)
  intro m
  induction m with
  | zero =>
    intro k h y hk ho ha
    have e : k = 12 := by omega
    subst e
    have t := hK h ho ha
    refine ma_run0 po_Mod_lay rfl rfl [110, 113] 80 ?_
    simp only [pc_Mod_lay_0, pc_Mod_lay_1, pc_Mod_lay_2, pc_Mod_lay_3, ma_go, ev_A, ev_B, ev_C, ev_D, Nat.reduceAdd, List.mem_cons, List.not_mem_nil, or_false, or_true, true_or, false_or, or_self, Nat.reduceEqDiff, reduceCtorEq, ↓reduceIte, List.length_cons, List.length_nil, Nat.reduceLT, Nat.reduceLeDiff, Nat.le_refl, implies_true, true_and, and_true, Option.toList, List.cons_append, List.nil_append]
    exact ⟨fun _ => t, fun q => absurd (nI_le (Nat.le_refl _) (by omega)) q⟩
  | succ m ih =>
    intro k h y hk ho ha
    have hp' := on_pt ho hp
    have n4 : ¬ nI 4 = 0 := nx_ne0 (by decide) (by decide)
    have n16 : ¬ nI 16 = 0 := nx_ne0 (by decide) (by decide)
    have t6 := ma_in_of (i := 45 * t + 33 + k) gs_186 (by omega) (by decide)
    have go : ∀ c, c = stl w (33 + k) → lJ l g x Q 110 [some (.ref 184), some (.int (nI t)), some (.int B), some (.int S), some (.int (nI (45 * t + 33))), none, some (.int (nI (sm 33 (ri w) % 33))), some (.int (nI (k + 1))), some (.int (nI c)), none, none, none] [] 0 0 GS (ma_uI h 186 (45 * t + 33 + k) (vp_nar .byte (nI c).toInt8.toInt32)) := by
      intro c hc
      have c4 : c < 4 := by rw [hc]; exact stl_lt hw _
      refine ih (k + 1) _ _ (by omega) (on_uI ho _ _ (by simp)) ?_
      rw [show 45 * t + 33 + k = 45 * t + (33 + k) by omega]
      exact wt_s (by rw [nb4 c c4, hc]) ha
    refine ma_run0 po_Mod_lay rfl rfl [110] 80 ?_
    simp only [pc_Mod_lay_0, pc_Mod_lay_1, pc_Mod_lay_2, pc_Mod_lay_3, ma_go, ev_A, ev_B, ev_C, ev_D, Nat.reduceAdd, List.mem_cons, List.not_mem_nil, or_false, or_true, true_or, false_or, or_self, Nat.reduceEqDiff, reduceCtorEq, ↓reduceIte, List.length_cons, List.length_nil, Nat.reduceLT, Nat.reduceLeDiff, Nat.le_refl, implies_true, true_and, and_true, Option.toList, List.cons_append, List.nil_append, gs_184, pt_Mod hp']
    simp only [nI_add]
    rw [nI_clamp (n := 45 * t + 33 + k) (by omega), pk_div (d := 16) (by omega) (by omega) (by omega), pk_div (d := 4) (by omega) (by omega) (by omega), ma_irem_nI (a := sm 33 (ri w) % 33 / 4) (by omega) (by omega) (by omega), ma_irem_nI (a := sm 33 (ri w) % 33) (by omega) (by omega) (by omega)]
    refine ⟨fun q => absurd q (nI_ge (by omega) (by omega)), fun _ => ⟨fun q => ⟨fun q2 => ⟨fun q3 => ⟨n4, t6, go _ ?_⟩, fun q3 => ⟨n4, n4, t6, go _ ?_⟩⟩, fun q2 => ⟨n16, t6, go _ ?_⟩⟩, fun q => ?_⟩⟩
    · have := (nI_leI (by omega) (by omega)).mp q3
      unfold stl
      rw [if_neg (by omega), if_neg (by omega), if_neg (by omega), if_neg (by omega)]
    · have := (nI_leI (by omega) (by omega)).mp q2
      have : k < 9 := Nat.lt_of_not_le (fun z => q3 (nI_le z (by omega)))
      unfold stl
      rw [if_neg (by omega), if_neg (by omega), if_neg (by omega), if_pos (by omega)]
    · have := (nI_leI (by omega) (by omega)).mp q
      have : k < 6 := Nat.lt_of_not_le (fun z => q2 (nI_le z (by omega)))
      unfold stl
      rw [if_neg (by omega), if_neg (by omega), if_pos (by omega)]
    · have : k < 3 := Nat.lt_of_not_le (fun z => q (nI_le z (by omega)))
      refine ma_callD mt_Mod_sum rfl rfl (Nat.le_of_ble_eq_true rfl) (Nat.le_refl _) (Nat.le_refl _) (m_sum l g x hp' hw (ar_on ho (by decide) h2)) ?_
      simp only [pc_Mod_lay_0, pc_Mod_lay_1, pc_Mod_lay_2, pc_Mod_lay_3, ma_go, ev_A, ev_B, ev_C, ev_D, Nat.reduceAdd, List.mem_cons, List.not_mem_nil, or_false, or_true, true_or, false_or, or_self, Nat.reduceEqDiff, reduceCtorEq, ↓reduceIte, List.length_cons, List.length_nil, Nat.reduceLT, Nat.reduceLeDiff, Nat.le_refl, implies_true, true_and, and_true, Option.toList, List.cons_append, List.nil_append, gs_184, pt_Mod hp']
      simp only [nI_add]
      rw [nI_clamp (n := 45 * t + 33 + k) (by omega)]
      refine ⟨t6, go _ ?_⟩
      unfold stl
      rw [if_neg (by omega), if_pos (by omega)]
end
set_option maxRecDepth 30000 in
theorem m_lay (l : Launch) (g : ma_G) (x : Bool) {h : ma_H} (hp : pt_ok h) {t b s : Nat} (ht : t < 64) (hb : b < 4) (hs : s < 16) {c : Nat → Nat} (hc : ∀ k, k < 64 → c k < 256) (h1 : ar h 195 64 c) : ma_PM l g x me_Mod_lay [.ref 184, .int (nI t), .int (nI b), .int (nI s)] GS h (fun v S' h' => v = none ∧ S' = GS ∧ on h h' [186, 192] ∧ wt (h.1 186) (h'.1 186) (45 * t) 45 (stl (spw (VV b s c)))) := by
  refine ma_PM_of (P := pr_Mod_lay) (by decide) rfl (Nat.le_of_ble_eq_true rfl) ?_
  show ma_J l g x none me_Mod_lay pr_Mod_lay _ 0 [some (.ref 184), some (.int (nI t)), some (.int (nI b)), some (.int (nI s)), none, none, none, none, none, none, none, none] [] 0 0 GS h
  have hw : wf (spw (VV b s c)) := fun i _ => spw_lt _ i
  refine ma_run0 po_Mod_lay rfl rfl [8] 80 ?_
  simp only [pc_Mod_lay_0, pc_Mod_lay_1, pc_Mod_lay_2, pc_Mod_lay_3, ma_go, ev_A, ev_B, ev_C, ev_D, Nat.reduceAdd, List.mem_cons, List.not_mem_nil, or_false, or_true, true_or, false_or, or_self, Nat.reduceEqDiff, reduceCtorEq, ↓reduceIte, List.length_cons, List.length_nil, Nat.reduceLT, Nat.reduceLeDiff, Nat.le_refl, implies_true, true_and, and_true, Option.toList, List.cons_append, List.nil_append]
  rw [pk_mul]
  refine ly_all hp ht hb hs hc h1 (fun h2 o2 w2 => ?_) 3 0 h (by omega) (on_rf _ _) (wt_0 _ _ _)
  refine ma_run0 po_Mod_lay rfl rfl [88] 80 ?_
  simp only [pc_Mod_lay_0, pc_Mod_lay_1, pc_Mod_lay_2, pc_Mod_lay_3, ma_go, ev_A, ev_B, ev_C, ev_D, Nat.reduceAdd, List.mem_cons, List.not_mem_nil, or_false, or_true, true_or, false_or, or_self, Nat.reduceEqDiff, reduceCtorEq, ↓reduceIte, List.length_cons, List.length_nil, Nat.reduceLT, Nat.reduceLeDiff, Nat.le_refl, implies_true, true_and, and_true, Option.toList, List.cons_append, List.nil_append]
  refine ly_word (on_pt o2 hp) ht (fun h3 o3 e3 => ?_) 33 0 h2 (by omega) (on_rf _ _) (fun i hi => by omega)
  have a3 : ar h3 192 33 (spw (VV b s c)) := fun i hi => by
    rw [e3 i hi, w2, if_pos (by omega), show 45 * t + i - 45 * t = i by omega]
  have o4 := on_tr (on_mo (L' := [186, 192]) o2 (by simp)) (on_mo (L' := [186, 192]) o3 (by simp))
  refine ma_run0 po_Mod_lay rfl rfl [110] 80 ?_
  simp only [pc_Mod_lay_0, pc_Mod_lay_1, pc_Mod_lay_2, pc_Mod_lay_3, ma_go, ev_A, ev_B, ev_C, ev_D, Nat.reduceAdd, List.mem_cons, List.not_mem_nil, or_false, or_true, true_or, false_or, or_self, Nat.reduceEqDiff, reduceCtorEq, ↓reduceIte, List.length_cons, List.length_nil, Nat.reduceLT, Nat.reduceLeDiff, Nat.le_refl, implies_true, true_and, and_true, Option.toList, List.cons_append, List.nil_append, gs_184]
  refine ma_callD mt_Mod_signature rfl rfl (Nat.le_of_ble_eq_true rfl) (Nat.le_refl _) (Nat.le_refl _) (m_signature l g x (on_pt o4 hp) hw a3) ?_
  simp only [pc_Mod_lay_0, pc_Mod_lay_1, pc_Mod_lay_2, pc_Mod_lay_3, ma_go, ev_A, ev_B, ev_C, ev_D, Nat.reduceAdd, List.mem_cons, List.not_mem_nil, or_false, or_true, true_or, false_or, or_self, Nat.reduceEqDiff, reduceCtorEq, ↓reduceIte, List.length_cons, List.length_nil, Nat.reduceLT, Nat.reduceLeDiff, Nat.le_refl, implies_true, true_and, and_true, Option.toList, List.cons_append, List.nil_append]
  refine ly_tail (o := h.1 186) (on_pt o4 hp) ht hw a3 (fun h4 o5 w5 => ⟨rfl, rfl, on_tr o4 (on_mo o5 (by simp)), w5⟩) 12 0 h3 none (by omega) (on_rf _ _) (fun j => ?_)
  rw [o3.2 186 (by decide), w2 j]
  by_cases q : 45 * t ≤ j ∧ j < 45 * t + 33
  · rw [if_pos q, if_pos (by omega)]
    unfold stl
    rw [if_pos (by omega)]
  · rw [if_neg q, if_neg (by omega)]
