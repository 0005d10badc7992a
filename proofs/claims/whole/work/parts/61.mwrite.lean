/-! the reference's write -/
theorem ga10 : ∀ s, s < 16 → ga_in (fun k => 10 + k) 6 s = M10 s := by decide
abbrev wJ (l : Launch) (g : ma_G) (x : Bool) (Q : ma_P) : ma_K := ma_J l g x none me_Mod_write pr_Mod_write Q
section
variable {l : Launch} {g : ma_G} {x : Bool} {Q : ma_P} {D : Nat → Nat} {n b c : Nat}
set_option maxRecDepth 30000 in
theorem mw_col {h0 : ma_H} (hp : pt_ok h0) (hb : b < 4) (hc : c < 4) (hn : n ≤ 160) (h3 : ar h0 185 160 D) {B : Int32}
    (hK : ∀ h, on h0 h [196] → ar h 196 16 (dcol D n b c) → wJ l g x Q 59 [some (.ref 184), some (.int (nI n)), some (.int B), some (.int (nI b)), some (.int (nI c)), none, none] [] 0 0 GS h) :
    ∀ m s h, s + m = 16 → on h0 h [196] → ar h 196 s (dcol D n b c) → wJ l g x Q 28 [some (.ref 184), some (.int (nI n)), some (.int B), some (.int (nI b)), some (.int (nI c)), some (.int (nI s)), none] [] 0 0 GS h := by
  intro m
  induction m with
  | zero =>
    intro s h hs ho ha
    have e : s = 16 := by omega
    subst e
    have t := ma_J.less (ls' := [some (.ref 184), some (.int (nI n)), some (.int B), some (.int (nI b)), some (.int (nI c)), some (.int (nI 16)), none]) (hK h ho ha) ⟨rfl, rfl, rfl, rfl, rfl, trivial⟩
    refine ma_run0 po_Mod_write rfl rfl [28, 31, 59] 80 ?_
    simp only [pc_Mod_write_0, pc_Mod_write_1, pc_Mod_write_2, pc_Mod_write_3, ma_go, ev_A, ev_B, ev_C, ev_D, Nat.reduceAdd, List.mem_cons, List.not_mem_nil, or_false, or_true, true_or, false_or, or_self, Nat.reduceEqDiff, reduceCtorEq, ↓reduceIte, List.length_cons, List.length_nil, Nat.reduceLT, Nat.reduceLeDiff, Nat.le_refl, implies_true, true_and, and_true, Option.toList, List.cons_append, List.nil_append]
    exact ⟨fun _ => t, fun q => absurd (nI_le (Nat.le_refl _) (by omega)) q⟩
  | succ m ih =>
    intro s h hs ho ha
    have t6 := ma_in_of (i := s) gs_196 (by omega) (by decide)
    have go : ∀ v u, v = dcol D n b c s → wJ l g x Q 28 [some (.ref 184), some (.int (nI n)), some (.int B), some (.int (nI b)), some (.int (nI c)), some (.int (nI (s + 1))), some (.int u)] [] 0 0 GS (ma_uI h 196 s (nI v)) := fun v u hv => ma_J.less (ih (s + 1) _ (by omega) (on_uI ho _ _ (by simp)) (ar_pu (by rw [hv]) ha)) ⟨rfl, rfl, rfl, rfl, rfl, rfl, trivial⟩
    refine ma_run0 po_Mod_write rfl rfl [28, 59] 80 ?_
    simp only [pc_Mod_write_0, pc_Mod_write_1, pc_Mod_write_2, pc_Mod_write_3, ma_go, ev_A, ev_B, ev_C, ev_D, Nat.reduceAdd, List.mem_cons, List.not_mem_nil, or_false, or_true, true_or, false_or, or_self, Nat.reduceEqDiff, reduceCtorEq, ↓reduceIte, List.length_cons, List.length_nil, Nat.reduceLT, Nat.reduceLeDiff, Nat.le_refl, implies_true, true_and, and_true, Option.toList, List.cons_append, List.nil_append, gs_184, pt_Mod (on_pt ho hp)]
    simp only [pk_mul, nI_add]
    rw [nI_clamp (n := s) (by omega)]
    refine ⟨fun q => absurd q (nI_ge (by omega) (by omega)), fun _ => ⟨fun q => ⟨t6, go 0 _ ?_⟩, fun q => ⟨fun q2 => ⟨t6, go 0 _ ?_⟩, fun q2 => ?_⟩⟩⟩
    · have := (nI_leI (by omega) (by omega)).mp q
      exact (if_neg (by omega)).symm
    · have := (nI_leI (by omega) (by omega)).mp q2
      exact (if_neg (by omega)).symm
    · have s10 : s < 10 := Nat.lt_of_not_le (fun z => q (nI_le z (by omega)))
      have i1 : 40 * b + 4 * s + c < n := Nat.lt_of_not_le (fun z => q2 (nI_le z (by omega)))
      have v3 : h.1 185 (40 * b + 4 * s + c) = nI (D (40 * b + 4 * s + c)) := by rw [ho.2 185 (by decide)]; exact h3 _ (by omega)
      rw [nI_clamp (n := 40 * b + 4 * s + c) (by omega), v3]
      exact ⟨ma_in_of gs_185 (by omega) (by decide), t6, go _ _ (if_pos ⟨s10, i1⟩).symm⟩
set_option maxRecDepth 30000 in
theorem mw_pl {h0 : ma_H} (hp : pt_ok h0) {N B b c : Int32}
    (hK : ∀ h, on h0 h [198] → ar h 198 6 (fun k => 10 + k) → wJ l g x Q 73 [some (.ref 184), some (.int N), some (.int B), some (.int b), some (.int c), none, none] [] 0 0 GS h) :
    ∀ m k h, k + m = 6 → on h0 h [198] → ar h 198 k (fun k => 10 + k) → wJ l g x Q 61 [some (.ref 184), some (.int N), some (.int B), some (.int b), some (.int c), some (.int (nI k)), none] [] 0 0 GS h := by
  intro m
  induction m with
  | zero =>
    intro s h hs ho ha
    have e : s = 6 := by omega
    subst e
    have t := ma_J.less (ls' := [some (.ref 184), some (.int N), some (.int B), some (.int b), some (.int c), some (.int (nI 6)), none]) (hK h ho ha) ⟨rfl, rfl, rfl, rfl, rfl, trivial⟩
    refine ma_run0 po_Mod_write rfl rfl [61, 64, 73] 80 ?_
    simp only [pc_Mod_write_0, pc_Mod_write_1, pc_Mod_write_2, pc_Mod_write_3, ma_go, ev_A, ev_B, ev_C, ev_D, Nat.reduceAdd, List.mem_cons, List.not_mem_nil, or_false, or_true, true_or, false_or, or_self, Nat.reduceEqDiff, reduceCtorEq, ↓reduceIte, List.length_cons, List.length_nil, Nat.reduceLT, Nat.reduceLeDiff, Nat.le_refl, implies_true, true_and, and_true, Option.toList, List.cons_append, List.nil_append]
    exact ⟨fun _ => t, fun q => absurd (nI_le (Nat.le_refl _) (by omega)) q⟩
  | succ m ih =>
    intro s h hs ho ha
    have i2 := ih (s + 1) (ma_uI h 198 s (nI (10 + s))) (by omega) (on_uI ho _ _ (by simp)) (ar_pu rfl ha)
    refine ma_run0 po_Mod_write rfl rfl [61, 73] 80 ?_
    simp only [pc_Mod_write_0, pc_Mod_write_1, pc_Mod_write_2, pc_Mod_write_3, ma_go, ev_A, ev_B, ev_C, ev_D, Nat.reduceAdd, List.mem_cons, List.not_mem_nil, or_false, or_true, true_or, false_or, or_self, Nat.reduceEqDiff, reduceCtorEq, ↓reduceIte, List.length_cons, List.length_nil, Nat.reduceLT, Nat.reduceLeDiff, Nat.le_refl, implies_true, true_and, and_true, Option.toList, List.cons_append, List.nil_append, gs_184, pt_Mod (on_pt ho hp)]
    simp only [nI_add]
    rw [nI_clamp (n := s) (by omega)]
    exact ⟨fun q => absurd q (nI_ge (by omega) (by omega)), fun _ => ⟨ma_in_of gs_198 (by omega) (by decide), i2⟩⟩
set_option maxRecDepth 30000 in
theorem mw_put {h0 : ma_H} (hp : pt_ok h0) (hc : c < 4) {w : Nat → Nat} (h4 : ar h0 196 16 w) {N B b : Int32}
    (hK : ∀ h, on h0 h [195] → (∀ k, k < 64 → h.1 195 k = if k % 4 = c then nI (w (k / 4)) else h0.1 195 k) → wJ l g x Q 96 [some (.ref 184), some (.int N), some (.int B), some (.int b), some (.int (nI c)), none, none] [] 0 0 GS h) :
    ∀ m s h, s + m = 16 → on h0 h [195] → (∀ k, h.1 195 k = if k % 4 = c ∧ k / 4 < s then nI (w (k / 4)) else h0.1 195 k) → wJ l g x Q 79 [some (.ref 184), some (.int N), some (.int B), some (.int b), some (.int (nI c)), some (.int (nI s)), none] [] 0 0 GS h := by
  intro m
  induction m with
  | zero =>
    intro s h hs ho h8
    have e : s = 16 := by omega
    subst e
    have t := ma_J.less (ls' := [some (.ref 184), some (.int N), some (.int B), some (.int b), some (.int (nI c)), some (.int (nI 16)), none]) (hK h ho (fun k hk => by
      rw [h8 k]
      by_cases e : k % 4 = c
      · rw [if_pos ⟨e, by omega⟩, if_pos e]
      · rw [if_neg (fun z => e z.1), if_neg e])) ⟨rfl, rfl, rfl, rfl, rfl, trivial⟩
    refine ma_run0 po_Mod_write rfl rfl [79, 82, 96] 80 ?_
    simp only [pc_Mod_write_0, pc_Mod_write_1, pc_Mod_write_2, pc_Mod_write_3, ma_go, ev_A, ev_B, ev_C, ev_D, Nat.reduceAdd, List.mem_cons, List.not_mem_nil, or_false, or_true, true_or, false_or, or_self, Nat.reduceEqDiff, reduceCtorEq, ↓reduceIte, List.length_cons, List.length_nil, Nat.reduceLT, Nat.reduceLeDiff, Nat.le_refl, implies_true, true_and, and_true, Option.toList, List.cons_append, List.nil_append]
    exact ⟨fun _ => t, fun q => absurd (nI_le (Nat.le_refl _) (by omega)) q⟩
  | succ m ih =>
    intro s h hs ho h8
    have v4 : h.1 196 s = nI (w s) := by rw [ho.2 196 (by decide)]; exact h4 s (by omega)
    have i2 := ih (s + 1) (ma_uI h 195 (4 * s + c) (nI (w s))) (by omega) (on_uI ho _ _ (by simp)) (fun k => by
      by_cases e : k = 4 * s + c
      · rw [e, uI_same, if_pos (by omega), show (4 * s + c) / 4 = s by omega]
      · rw [uI_ne (fun z => e z.2), h8 k]
        by_cases q : k % 4 = c ∧ k / 4 < s
        · rw [if_pos q, if_pos (by omega)]
        · rw [if_neg q, if_neg (by omega)])
    refine ma_run0 po_Mod_write rfl rfl [79, 96] 80 ?_
    simp only [pc_Mod_write_0, pc_Mod_write_1, pc_Mod_write_2, pc_Mod_write_3, ma_go, ev_A, ev_B, ev_C, ev_D, Nat.reduceAdd, List.mem_cons, List.not_mem_nil, or_false, or_true, true_or, false_or, or_self, Nat.reduceEqDiff, reduceCtorEq, ↓reduceIte, List.length_cons, List.length_nil, Nat.reduceLT, Nat.reduceLeDiff, Nat.le_refl, implies_true, true_and, and_true, Option.toList, List.cons_append, List.nil_append, gs_184, pt_Mod (on_pt ho hp)]
    simp only [pk_mul, nI_add]
    rw [nI_clamp (n := s) (by omega), v4, nI_clamp (n := 4 * s + c) (by omega)]
    exact ⟨fun q => absurd q (nI_ge (by omega) (by omega)), fun _ => ⟨ma_in_of gs_196 (by omega) (by decide), ma_in_of gs_195 (by omega) (by decide), i2⟩⟩
set_option maxRecDepth 30000 in
theorem mw_blk {h0 : ma_H} (hp : pt_ok h0) (hm : mt_ok h0) (hb : b < 4) (hn : n ≤ 160) (hD : ∀ i, i < 160 → D i < 256) (h3 : ar h0 185 160 D) {B : Int32}
    (hK : ∀ h, on h0 h [195, 196, 197, 198] → ar h 195 64 (cb D n b) → wJ l g x Q 98 [some (.ref 184), some (.int (nI n)), some (.int B), some (.int (nI b)), none, none, none] [] 0 0 GS h) :
    ∀ m c h, c + m = 4 → on h0 h [195, 196, 197, 198] → (∀ k, k < 64 → k % 4 < c → h.1 195 k = nI (cb D n b k)) → wJ l g x Q 23 [some (.ref 184), some (.int (nI n)), some (.int B), some (.int (nI b)), some (.int (nI c)), none, none] [] 0 0 GS h := by
  intro m
  induction m with
  | zero =>
    intro c h hc ho hv
    have e : c = 4 := by omega
    subst e
    have t := ma_J.less (ls' := [some (.ref 184), some (.int (nI n)), some (.int B), some (.int (nI b)), some (.int (nI 4)), none, none]) (hK h ho (fun k hk => hv k hk (by omega))) ⟨rfl, rfl, rfl, rfl, trivial⟩
    refine ma_run0 po_Mod_write rfl rfl [23, 26, 98] 80 ?_
    simp only [pc_Mod_write_0, pc_Mod_write_1, pc_Mod_write_2, pc_Mod_write_3, ma_go, ev_A, ev_B, ev_C, ev_D, Nat.reduceAdd, List.mem_cons, List.not_mem_nil, or_false, or_true, true_or, false_or, or_self, Nat.reduceEqDiff, reduceCtorEq, ↓reduceIte, List.length_cons, List.length_nil, Nat.reduceLT, Nat.reduceLeDiff, Nat.le_refl, implies_true, true_and, and_true, Option.toList, List.cons_append, List.nil_append]
    exact ⟨fun _ => t, fun q => absurd (nI_le (Nat.le_refl _) (by omega)) q⟩
  | succ m ih =>
    intro c h hc ho hv
    have hlt : ∀ s, s < 16 → dcol D n b c s < 256 := fun s _ => dcol_lt hD hn s
    have md := m10_md (c := dcol D n b c) hlt
    refine ma_run0 po_Mod_write rfl rfl [23, 28, 98] 80 ?_
    simp only [pc_Mod_write_0, pc_Mod_write_1, pc_Mod_write_2, pc_Mod_write_3, ma_go, ev_A, ev_B, ev_C, ev_D, Nat.reduceAdd, List.mem_cons, List.not_mem_nil, or_false, or_true, true_or, false_or, or_self, Nat.reduceEqDiff, reduceCtorEq, ↓reduceIte, List.length_cons, List.length_nil, Nat.reduceLT, Nat.reduceLeDiff, Nat.le_refl, implies_true, true_and, and_true, Option.toList, List.cons_append, List.nil_append]
    refine ⟨fun q => absurd q (nI_ge (by omega) (by omega)), fun _ => ?_⟩
    refine mw_col (on_pt ho hp) hb (show c < 4 by omega) hn (ar_on ho (by decide) h3) (fun h1 o1 a1 => ?_) 16 0 h (by omega) (on_rf _ _) (fun k hk => by omega)
    have o2 := on_tr ho (on_mo (L' := [195, 196, 197, 198]) o1 (by simp))
    refine ma_run0 po_Mod_write rfl rfl [61] 80 ?_
    simp only [pc_Mod_write_0, pc_Mod_write_1, pc_Mod_write_2, pc_Mod_write_3, ma_go, ev_A, ev_B, ev_C, ev_D, Nat.reduceAdd, List.mem_cons, List.not_mem_nil, or_false, or_true, true_or, false_or, or_self, Nat.reduceEqDiff, reduceCtorEq, ↓reduceIte, List.length_cons, List.length_nil, Nat.reduceLT, Nat.reduceLeDiff, Nat.le_refl, implies_true, true_and, and_true, Option.toList, List.cons_append, List.nil_append]
    refine mw_pl (on_pt o2 hp) (fun h2 o3 a3 => ?_) 6 0 h1 (by omega) (on_rf _ _) (fun k hk => by omega)
    have o4 := on_tr o2 (on_mo (L' := [195, 196, 197, 198]) o3 (by simp))
    refine ma_run0 po_Mod_write rfl rfl [79] 80 ?_
    simp only [pc_Mod_write_0, pc_Mod_write_1, pc_Mod_write_2, pc_Mod_write_3, ma_go, ev_A, ev_B, ev_C, ev_D, Nat.reduceAdd, List.mem_cons, List.not_mem_nil, or_false, or_true, true_or, false_or, or_self, Nat.reduceEqDiff, reduceCtorEq, ↓reduceIte, List.length_cons, List.length_nil, Nat.reduceLT, Nat.reduceLeDiff, Nat.le_refl, implies_true, true_and, and_true, Option.toList, List.cons_append, List.nil_append, gs_184]
    refine ma_callP mt_Mod_solved rfl rfl (Nat.le_of_ble_eq_true rfl) (Nat.le_refl _) (Nat.le_refl _) (m_solved l g x (on_pt o4 hp) (mt_on o4 (by decide) (by decide) hm) hlt (ar_on o3 (by decide) a1) (Nat.le_refl 6) (fun k hk => by show 10 + k < 16; omega) (fun a b _ _ e => by have : 10 + a = 10 + b := e; omega) a3) ?_
    intro v S' h4 hpost
    obtain ⟨rfl, o5, hh⟩ := hpost
    have o6 := on_tr o4 (on_mo (L' := [195, 196, 197, 198]) o5 (by simp))
    rcases hh with ⟨rfl, e, e1, e2, e3, e4⟩ | ⟨rfl, a4, no⟩
    · have mw : gf_md (dcol D n b c) M10 (fun s => dcol D n b c s ^^^ e s) := by
        refine ⟨fun s hs => gf_xor_lt (hlt s hs) (e1 s hs), fun j hj => by rw [gf_sy_xor hlt e1, e3 j hj, Nat.xor_self], ?_⟩
        rw [gf_cn_congr (q := fun _ => false) (fun s hs => by
          cases z : M10 s
          · dsimp only
            rw [e2 s hs (by rw [ga10 s hs, z]), Nat.xor_zero]; simp
          · rfl)]
        decide
      simp only [pc_Mod_write_0, pc_Mod_write_1, pc_Mod_write_2, pc_Mod_write_3, ma_go, ev_A, ev_B, ev_C, ev_D, Nat.reduceAdd, List.mem_cons, List.not_mem_nil, or_false, or_true, true_or, false_or, or_self, Nat.reduceEqDiff, reduceCtorEq, ↓reduceIte, List.length_cons, List.length_nil, Nat.reduceLT, Nat.reduceLeDiff, Nat.le_refl, implies_true, true_and, and_true, Option.toList, List.cons_append, List.nil_append]
      refine mw_put (on_pt o6 hp) (show c < 4 by omega) e4 (fun h5 o7 e7 => ?_) 16 0 h4 (by omega) (on_rf _ _) (fun k => by rw [if_neg (by omega)])
      refine ma_run0 po_Mod_write rfl rfl [23] 80 ?_
      simp only [pc_Mod_write_0, pc_Mod_write_1, pc_Mod_write_2, pc_Mod_write_3, ma_go, ev_A, ev_B, ev_C, ev_D, Nat.reduceAdd, List.mem_cons, List.not_mem_nil, or_false, or_true, true_or, false_or, or_self, Nat.reduceEqDiff, reduceCtorEq, ↓reduceIte, List.length_cons, List.length_nil, Nat.reduceLT, Nat.reduceLeDiff, Nat.le_refl, implies_true, true_and, and_true, Option.toList, List.cons_append, List.nil_append]
      rw [nx_1]
      refine ih (c + 1) h5 (by omega) (on_tr o6 (on_mo o7 (by simp))) (fun k hk hk4 => ?_)
      rw [e7 k hk]
      by_cases z : k % 4 = c
      · have z2 := gf_md_one mw md (k / 4) (by omega)
        rw [if_pos z]
        unfold cb
        rw [z, ← z2]
      · rw [if_neg z, o5.2 195 (by decide), o3.2 195 (by decide), o1.2 195 (by decide)]
        exact hv k hk (by omega)
    · refine absurd (fun j hj => ?_) (no (gf_fix (dcol D n b c) M10) (fun s _ => gf_fix_lt _ _ _) (fun s hs z => gf_fix_out (by rw [← ga10 s hs]; exact z)))
      have z := gf_fix_first hlt M10 j (by rw [show gf_cn 16 M10 = 6 by decide]; exact hj)
      rw [gf_sy_xor hlt (fun s _ => gf_fix_lt _ _ _)] at z
      exact (gf_xeq z).symm
end
section
variable (l : Launch) (g : ma_G) (x : Bool) {h : ma_H}
set_option maxRecDepth 30000 in
theorem m_mwriteN {n : Int32} (hn : ¬ (nI 1 ≤ n ∧ n ≤ nI 160)) : ma_PM l g x me_Mod_write [.ref 184, .int n] GS h (fun v S' h' => v = some (.int (nI 0)) ∧ S' = GS ∧ h' = ma_uI h 184 0 (nI 0)) := by
  refine ma_PM_of (P := pr_Mod_write) (by decide) rfl (Nat.le_of_ble_eq_true rfl) ?_
  show ma_J l g x none me_Mod_write pr_Mod_write _ 0 [some (.ref 184), some (.int n), none, none, none, none, none] [] 0 0 GS h
  refine ma_run0 po_Mod_write rfl rfl [10] 60 ?_
  simp only [pc_Mod_write_0, pc_Mod_write_1, pc_Mod_write_2, pc_Mod_write_3, ma_go, ev_A, ev_B, ev_C, ev_D, Nat.reduceAdd, List.mem_cons, List.not_mem_nil, or_false, or_true, true_or, false_or, or_self, Nat.reduceEqDiff, reduceCtorEq, ↓reduceIte, List.length_cons, List.length_nil, Nat.reduceLT, Nat.reduceLeDiff, Nat.le_refl, implies_true, true_and, and_true, Option.toList, List.cons_append, List.nil_append, gs_184]
  refine ma_callD mt_Mod_in rfl rfl (Nat.le_of_ble_eq_true rfl) (Nat.le_refl _) (Nat.le_refl _) (m_in l g x GS _ n (nI 1) (nI 160)) ?_
  simp only [pc_Mod_write_0, pc_Mod_write_1, pc_Mod_write_2, pc_Mod_write_3, ma_go, ev_A, ev_B, ev_C, ev_D, Nat.reduceAdd, List.mem_cons, List.not_mem_nil, or_false, or_true, true_or, false_or, or_self, Nat.reduceEqDiff, reduceCtorEq, ↓reduceIte, List.length_cons, List.length_nil, Nat.reduceLT, Nat.reduceLeDiff, Nat.le_refl, implies_true, true_and, and_true, Option.toList, List.cons_append, List.nil_append]
  rw [show decide (nI 1 ≤ n ∧ n ≤ nI 160) = false from decide_eq_false hn]
  exact fun q => absurd rfl q
set_option maxRecDepth 30000 in
theorem m_mwrite (hp : pt_ok h) (hm : mt_ok h) {n : Nat} {D : Nat → Nat} (hn : 1 ≤ n ∧ n ≤ 160) (hD : ∀ i, i < 160 → D i < 256) (h3 : ar h 185 160 D) : ma_PM l g x me_Mod_write [.ref 184, .int (nI n)] GS h (fun v S' h' => v = some (.int (nI (16 * bl n))) ∧ S' = GS ∧ on h h' [184, 186, 192, 195, 196, 197, 198] ∧ h'.1 184 2 = nI (16 * bl n) ∧ h'.1 184 4 = nI 0 ∧ (∀ k, k ≠ 0 → k ≠ 2 → k ≠ 4 → h'.1 184 k = h.1 184 k) ∧ ∀ t, t < 16 * bl n → ∀ k, k < 45 → h'.1 186 (45 * t + k) = nI (TT D n t k)) := by
  refine ma_PM_of (P := pr_Mod_write) (by decide) rfl (Nat.le_of_ble_eq_true rfl) ?_
  show ma_J l g x none me_Mod_write pr_Mod_write _ 0 [some (.ref 184), some (.int (nI n)), none, none, none, none, none] [] 0 0 GS h
  generalize hQ : (fun (v : Option Value) (S' : ma_S) (h' : ma_H) => v = some (.int (nI (16 * bl n))) ∧ S' = GS ∧ on h h' [184, 186, 192, 195, 196, 197, 198] ∧ h'.1 184 2 = nI (16 * bl n) ∧ h'.1 184 4 = nI 0 ∧ (∀ k, k ≠ 0 → k ≠ 2 → k ≠ 4 → h'.1 184 k = h.1 184 k) ∧ ∀ t, t < 16 * bl n → ∀ k, k < 45 → h'.1 186 (45 * t + k) = nI (TT D n t k)) = Q
  have hB : bl n ≤ 4 := by unfold bl; omega
  have o0 : on h (ma_uI h 184 0 (nI 0)) [184] := on_uI (on_rf h _) _ _ (by simp)
  have e0 : ∀ k, k ≠ 0 → (ma_uI h 184 0 (nI 0)).1 184 k = h.1 184 k := fun k hk => uI_ne (fun z => hk z.2)
  refine ma_run0 po_Mod_write rfl rfl [10] 60 ?_
  simp only [pc_Mod_write_0, pc_Mod_write_1, pc_Mod_write_2, pc_Mod_write_3, ma_go, ev_A, ev_B, ev_C, ev_D, Nat.reduceAdd, List.mem_cons, List.not_mem_nil, or_false, or_true, true_or, false_or, or_self, Nat.reduceEqDiff, reduceCtorEq, ↓reduceIte, List.length_cons, List.length_nil, Nat.reduceLT, Nat.reduceLeDiff, Nat.le_refl, implies_true, true_and, and_true, Option.toList, List.cons_append, List.nil_append, gs_184]
  refine ma_callD mt_Mod_in rfl rfl (Nat.le_of_ble_eq_true rfl) (Nat.le_refl _) (Nat.le_refl _) (m_in l g x GS _ (nI n) (nI 1) (nI 160)) ?_
  simp only [pc_Mod_write_0, pc_Mod_write_1, pc_Mod_write_2, pc_Mod_write_3, ma_go, ev_A, ev_B, ev_C, ev_D, Nat.reduceAdd, List.mem_cons, List.not_mem_nil, or_false, or_true, true_or, false_or, or_self, Nat.reduceEqDiff, reduceCtorEq, ↓reduceIte, List.length_cons, List.length_nil, Nat.reduceLT, Nat.reduceLeDiff, Nat.le_refl, implies_true, true_and, and_true, Option.toList, List.cons_append, List.nil_append]
  rw [show decide (nI 1 ≤ nI n ∧ nI n ≤ nI 160) = true from decide_eq_true ⟨nI_le (by omega) (by omega), nI_le (by omega) (by omega)⟩]
  refine ⟨fun _ => ?_, fun q => absurd q (by decide +kernel)⟩
  generalize ma_uI h 184 0 (nI 0) = h0 at o0 e0
  have loop : ∀ m b H, b + m = bl n → on h0 H [186, 192, 195, 196, 197, 198] → (∀ t, t < 16 * b → ∀ k, k < 45 → H.1 186 (45 * t + k) = nI (TT D n t k)) → wJ l g x Q 18 [some (.ref 184), some (.int (nI n)), some (.int (nI (bl n))), some (.int (nI b)), none, none, none] [] 0 0 GS H := by
    intro m
    induction m with
    | zero =>
      intro b H hm2 oH hz
      have e : b = bl n := by omega
      rw [e] at hz
      refine ma_run0 po_Mod_write rfl rfl [18, 21] 80 ?_
      simp only [pc_Mod_write_0, pc_Mod_write_1, pc_Mod_write_2, pc_Mod_write_3, ma_go, ev_A, ev_B, ev_C, ev_D, Nat.reduceAdd, List.mem_cons, List.not_mem_nil, or_false, or_true, true_or, false_or, or_self, Nat.reduceEqDiff, reduceCtorEq, ↓reduceIte, List.length_cons, List.length_nil, Nat.reduceLT, Nat.reduceLeDiff, Nat.le_refl, implies_true, true_and, and_true, Option.toList, List.cons_append, List.nil_append, gs_184]
      rw [e, pk_mul]
      refine ⟨fun _ => ?_, fun q => absurd (nI_le (Nat.le_refl _) (by omega)) q⟩
      rw [← hQ]
      have o2 : on H (ma_uI (ma_uI H 184 2 (nI (16 * bl n))) 184 4 (nI 0)) [184] := on_uI (on_uI (on_rf H _) _ _ (by simp)) _ _ (by simp)
      have e2 : (ma_uI (ma_uI H 184 2 (nI (16 * bl n))) 184 4 (nI 0)).1 184 2 = nI (16 * bl n) := by rw [uI_ne (by omega), uI_same]
      refine ⟨?_, rfl, on_tr (on_mo o0 (by simp)) (on_tr (on_mo oH (by simp)) (on_mo o2 (by simp))), e2, uI_same _ _ _ _, fun k k0 k2 k4 => ?_, fun t ht k hk => ?_⟩
      · first | rw [e2] | rfl
      · rw [uI_ne (fun z => k4 z.2), uI_ne (fun z => k2 z.2), oH.2 184 (by decide), e0 k k0]
      · rw [o2.2 186 (by decide)]; exact hz t ht k hk
    | succ m ih =>
      intro b H hm2 oH hz
      have o1 := on_tr (on_mo (L' := [184, 186, 192, 195, 196, 197, 198]) o0 (by simp)) (on_mo (L' := [184, 186, 192, 195, 196, 197, 198]) oH (by simp))
      refine ma_run0 po_Mod_write rfl rfl [18, 23, 116] 80 ?_
      simp only [pc_Mod_write_0, pc_Mod_write_1, pc_Mod_write_2, pc_Mod_write_3, ma_go, ev_A, ev_B, ev_C, ev_D, Nat.reduceAdd, List.mem_cons, List.not_mem_nil, or_false, or_true, true_or, false_or, or_self, Nat.reduceEqDiff, reduceCtorEq, ↓reduceIte, List.length_cons, List.length_nil, Nat.reduceLT, Nat.reduceLeDiff, Nat.le_refl, implies_true, true_and, and_true, Option.toList, List.cons_append, List.nil_append]
      refine ⟨fun q => absurd q (nI_ge (by omega) (by omega)), fun _ => ?_⟩
      refine mw_blk (on_pt o1 hp) (mt_on o1 (by decide) (by decide) hm) (show b < 4 by omega) hn.2 hD (ar_on o1 (by decide) h3) (fun H2 o2 c2 => ?_) 4 0 H (by omega) (on_rf _ _) (fun k _ hk => by omega)
      have loop2 : ∀ m s H3, s + m = 16 → on h0 H3 [186, 192, 195, 196, 197, 198] → ar H3 195 64 (cb D n b) → (∀ t, t < 16 * b + s → ∀ k, k < 45 → H3.1 186 (45 * t + k) = nI (TT D n t k)) → wJ l g x Q 100 [some (.ref 184), some (.int (nI n)), some (.int (nI (bl n))), some (.int (nI b)), some (.int (nI s)), none, none] [] 0 0 GS H3 := by
        intro m
        induction m with
        | zero =>
          intro s H3 hs o3 c3 z3
          have e : s = 16 := by omega
          subst e
          refine ma_run0 po_Mod_write rfl rfl [18, 103] 80 ?_
          simp only [pc_Mod_write_0, pc_Mod_write_1, pc_Mod_write_2, pc_Mod_write_3, ma_go, ev_A, ev_B, ev_C, ev_D, Nat.reduceAdd, List.mem_cons, List.not_mem_nil, or_false, or_true, true_or, false_or, or_self, Nat.reduceEqDiff, reduceCtorEq, ↓reduceIte, List.length_cons, List.length_nil, Nat.reduceLT, Nat.reduceLeDiff, Nat.le_refl, implies_true, true_and, and_true, Option.toList, List.cons_append, List.nil_append]
          rw [nx_1]
          exact ⟨fun _ => ma_J.less (ih (b + 1) H3 (by omega) o3 (fun t ht => z3 t (by omega))) ⟨rfl, rfl, rfl, rfl, trivial⟩, fun q => absurd (nI_le (Nat.le_refl _) (by omega)) q⟩
        | succ m ih2 =>
          intro s H3 hs o3 c3 z3
          have hp3 := on_pt o3 (on_pt o0 hp)
          refine ma_run0 po_Mod_write rfl rfl [100, 114] 80 ?_
          simp only [pc_Mod_write_0, pc_Mod_write_1, pc_Mod_write_2, pc_Mod_write_3, ma_go, ev_A, ev_B, ev_C, ev_D, Nat.reduceAdd, List.mem_cons, List.not_mem_nil, or_false, or_true, true_or, false_or, or_self, Nat.reduceEqDiff, reduceCtorEq, ↓reduceIte, List.length_cons, List.length_nil, Nat.reduceLT, Nat.reduceLeDiff, Nat.le_refl, implies_true, true_and, and_true, Option.toList, List.cons_append, List.nil_append, gs_184]
          rw [pk_mul, nI_add]
          refine ⟨fun q => absurd q (nI_ge (by omega) (by omega)), fun _ => ?_⟩
          refine ma_callP mt_Mod_lay rfl rfl (Nat.le_of_ble_eq_true rfl) (Nat.le_refl _) (Nat.le_refl _) (m_lay l g x hp3 (t := 16 * b + s) (by omega) (show b < 4 by omega) (show s < 16 by omega) (fun k hk => cb_lt hD hn.2 hk) c3) ?_
          intro v S' H4 hpost
          obtain ⟨rfl, rfl, o4, w4⟩ := hpost
          simp only [pc_Mod_write_0, pc_Mod_write_1, pc_Mod_write_2, pc_Mod_write_3, ma_go, ev_A, ev_B, ev_C, ev_D, Nat.reduceAdd, List.mem_cons, List.not_mem_nil, or_false, or_true, true_or, false_or, or_self, Nat.reduceEqDiff, reduceCtorEq, ↓reduceIte, List.length_cons, List.length_nil, Nat.reduceLT, Nat.reduceLeDiff, Nat.le_refl, implies_true, true_and, and_true, Option.toList, List.cons_append, List.nil_append]
          rw [nx_1]
          refine ih2 (s + 1) H4 (by omega) (on_tr o3 (on_mo o4 (by simp))) (ar_on o4 (by decide) c3) (fun t ht k hk => ?_)
          rw [w4]
          by_cases e : t = 16 * b + s
          · rw [e, if_pos (by omega), show 45 * (16 * b + s) + k - 45 * (16 * b + s) = k by omega]
            unfold TT
            rw [show (16 * b + s) / 16 = b by omega, show (16 * b + s) % 16 = s by omega]
          · rw [if_neg (by omega)]
            exact z3 t (by omega) k hk
      refine ma_run0 po_Mod_write rfl rfl [100] 80 ?_
      simp only [pc_Mod_write_0, pc_Mod_write_1, pc_Mod_write_2, pc_Mod_write_3, ma_go, ev_A, ev_B, ev_C, ev_D, Nat.reduceAdd, List.mem_cons, List.not_mem_nil, or_false, or_true, true_or, false_or, or_self, Nat.reduceEqDiff, reduceCtorEq, ↓reduceIte, List.length_cons, List.length_nil, Nat.reduceLT, Nat.reduceLeDiff, Nat.le_refl, implies_true, true_and, and_true, Option.toList, List.cons_append, List.nil_append]
      exact loop2 16 0 H2 (by omega) (on_tr oH (on_mo o2 (by simp))) c2 (fun t ht k hk => by rw [o2.2 186 (by decide)]; exact hz t (by omega) k hk)
  have n40 : ¬ nI 40 = 0 := nx_ne0 (by decide) (by decide)
  refine ma_run0 po_Mod_write rfl rfl [18] 60 ?_
  simp only [pc_Mod_write_0, pc_Mod_write_1, pc_Mod_write_2, pc_Mod_write_3, ma_go, ev_A, ev_B, ev_C, ev_D, Nat.reduceAdd, List.mem_cons, List.not_mem_nil, or_false, or_true, true_or, false_or, or_self, Nat.reduceEqDiff, reduceCtorEq, ↓reduceIte, List.length_cons, List.length_nil, Nat.reduceLT, Nat.reduceLeDiff, Nat.le_refl, implies_true, true_and, and_true, Option.toList, List.cons_append, List.nil_append]
  rw [nI_add, pk_div (by omega) (by omega) (by omega)]
  exact ⟨n40, loop (bl n) 0 h0 (by omega) (on_rf _ _) (fun t ht => by omega)⟩
end
