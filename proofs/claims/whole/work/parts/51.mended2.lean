/-! the reference's isMended -/
/-- what is told of the block b, of the first n bytes alone -/
def fbM (n : Nat) (cl sd : Nat → Nat) (b : Nat) (o : Nat → Int32) (v : Option Value) (ch : Int32) (by' : Nat → Int32) : Prop :=
  (v = some (.int (nI 1)) ∧ ∃ ws, ws.length = 4 ∧ mdL cl sd b ws ∧ ch = nI (gf_cn 16 (hcL cl sd b ws)) ∧ ∀ k, k < n → by' k = cwL b o ws k) ∨
  (v = some (.int (nI 0)) ∧ (∃ c, c < 4 ∧ ∀ w, ¬ gf_md (co cl sd b c) (gn cl b) w) ∧ ch = -1 ∧ ∀ k, k < n → (40 * b ≤ k ∧ k < 40 * b + 40 → by' k = nI 0) ∧ (¬ (40 * b ≤ k ∧ k < 40 * b + 40) → by' k = o k))
section
variable {l : Launch} {g : ma_G} {x : Bool} {Q : ma_P} {b n : Nat} {cl sd : Nat → Nat}
set_option maxRecDepth 30000 in
theorem im_all {h0 : ma_H} (hp : pt_ok h0) (hm : mt_ok h0) (hb : b < 4) (hn : n ≤ 160) (h7 : h0.1 184 7 = nI n) (hcl : ∀ k, k < 64 → cl k < 1000) (h1 : ar h0 194 64 cl) (h2 : ar h0 195 256 sd) (hsd : ∀ s, s < 16 → cl (16 * b + s) = 1 → ∀ c, c < 4 → sd (4 * (16 * b + s) + c) < 256)
    (hY : ∀ h ws, on h0 h [189, 196, 197, 198] → ws.length = 4 → mdL cl sd b ws → (∀ k, k < n → h.1 189 k = cwL b (h0.1 189) ws k) → nJ l g x Q 150 [some (.ref 184), some (.int (nI b)), some (.int (nI (gf_cn 16 (gn cl b)))), some (.int (nI (bz (hcL cl sd b ws) 16))), some (.int (nI 1)), none, none, none] [] 0 0 GS h)
    (hN : ∀ h c R, on h0 h [189, 196, 197, 198] → c < 4 → (∀ w, ¬ gf_md (co cl sd b c) (gn cl b) w) → (∀ k, k < n → ¬ (40 * b ≤ k ∧ k < 40 * b + 40) → h.1 189 k = h0.1 189 k) → nJ l g x Q 150 [some (.ref 184), some (.int (nI b)), some (.int (nI (gf_cn 16 (gn cl b)))), some (.int (nI (bz R 16))), some (.int (nI 0)), none, none, none] [] 0 0 GS h) :
    ∀ m (ws : List (Nat → Nat)) h, ws.length + m = 4 → on h0 h [189, 196, 197, 198] → mdL cl sd b ws → (∀ k, k < n → h.1 189 k = cwL b (h0.1 189) ws k) → nJ l g x Q 36 [some (.ref 184), some (.int (nI b)), some (.int (nI (gf_cn 16 (gn cl b)))), some (.int (nI (bz (hcL cl sd b ws) 16))), some (.int (nI 1)), some (.int (nI ws.length)), none, none] [] 0 0 GS h := by
  intro m
  induction m with
  | zero =>
    intro ws h hs ho h3 h4
    have e : ws.length = 4 := by omega
    have t := hY h ws ho e h3 h4
    rw [e]
    have t2 := ma_J.less (ls' := [some (.ref 184), some (.int (nI b)), some (.int (nI (gf_cn 16 (gn cl b)))), some (.int (nI (bz (hcL cl sd b ws) 16))), some (.int (nI 1)), some (.int (nI 4)), none, none]) t ⟨rfl, rfl, rfl, rfl, rfl, trivial⟩
    refine ma_run0 po_Mod_isMended rfl rfl [36, 41, 150] 80 ?_
    simp only [pc_Mod_isMended_0, pc_Mod_isMended_1, pc_Mod_isMended_2, pc_Mod_isMended_3, pc_Mod_isMended_4, pc_Mod_isMended_5, ma_go, ev_A, ev_B, ev_C, ev_D, Nat.reduceAdd, List.mem_cons, List.not_mem_nil, or_false, or_true, true_or, false_or, or_self, Nat.reduceEqDiff, reduceCtorEq, ↓reduceIte, List.length_cons, List.length_nil, Nat.reduceLT, Nat.reduceLeDiff, Nat.le_refl, implies_true, true_and, and_true, Option.toList, List.cons_append, List.nil_append]
    exact ⟨fun _ => t2, fun q => absurd (nI_le (Nat.le_refl _) (by omega)) q⟩
  | succ m ih =>
    intro ws h hs ho h3 h4
    have hp' := on_pt ho hp
    have a1 := ar_on ho (by decide) h1
    have a2 := ar_on ho (by decide) h2
    have e7 : h.1 184 7 = nI n := by rw [ho.2 184 (by decide)]; exact h7
    have hl : ws.length < 4 := by omega
    have hco : ∀ s, s < 16 → co cl sd b ws.length s < 256 := fun s hs => by
      unfold co
      by_cases e : cl (16 * b + s) = 1
      · rw [if_pos e]; exact hsd s hs e _ hl
      · rw [if_neg e]; decide
    refine ma_run0 po_Mod_isMended rfl rfl [36, 43, 150] 80 ?_
    simp only [pc_Mod_isMended_0, pc_Mod_isMended_1, pc_Mod_isMended_2, pc_Mod_isMended_3, pc_Mod_isMended_4, pc_Mod_isMended_5, ma_go, ev_A, ev_B, ev_C, ev_D, Nat.reduceAdd, List.mem_cons, List.not_mem_nil, or_false, or_true, true_or, false_or, or_self, Nat.reduceEqDiff, reduceCtorEq, ↓reduceIte, List.length_cons, List.length_nil, Nat.reduceLT, Nat.reduceLeDiff, Nat.le_refl, implies_true, true_and, and_true, Option.toList, List.cons_append, List.nil_append]
    simp only [n10, not_false_eq_true, true_implies, false_implies, true_and]
    refine ⟨fun q => absurd q (nI_ge (by omega) (by omega)), fun _ => ?_⟩
    refine im_col hp' hb hl hcl a1 a2 (fun H oH cH => ?_) 16 0 h (by omega) (on_rf h _) (fun k hk => by omega)
    have o1 := on_tr ho (on_mo (L' := [189, 196, 197, 198]) oH (by simp))
    refine ma_run0 po_Mod_isMended rfl rfl [83] 80 ?_
    simp only [pc_Mod_isMended_0, pc_Mod_isMended_1, pc_Mod_isMended_2, pc_Mod_isMended_3, pc_Mod_isMended_4, pc_Mod_isMended_5, ma_go, ev_A, ev_B, ev_C, ev_D, Nat.reduceAdd, List.mem_cons, List.not_mem_nil, or_false, or_true, true_or, false_or, or_self, Nat.reduceEqDiff, reduceCtorEq, ↓reduceIte, List.length_cons, List.length_nil, Nat.reduceLT, Nat.reduceLeDiff, Nat.le_refl, implies_true, true_and, and_true, Option.toList, List.cons_append, List.nil_append, gs_184]
    refine ma_callP mt_Mod_isColumn rfl rfl (Nat.le_of_ble_eq_true rfl) (Nat.le_refl _) (Nat.le_refl _) (m_isColumn l g x (on_pt o1 hp) (mt_on o1 (by decide) (by decide) hm) hb (sc := fun s => cl (16 * b + s)) (M := gn cl b) (fun s hs => ⟨ar_on oH (by decide) a1 _ (by omega), by have := hcl (16 * b + s) (by omega); show cl (16 * b + s) < _; omega, rfl⟩) hco cH) ?_
    intro v S' H2 hpost
    obtain ⟨rfl, o2, hh⟩ := hpost
    have o3 := on_tr o1 (on_mo (L' := [189, 196, 197, 198]) o2 (by simp))
    have e189 : H2.1 189 = h.1 189 := by rw [o2.2 189 (by decide), oH.2 189 (by decide)]
    have hp2 := on_pt o3 hp
    rcases hh with ⟨rfl, w, w1, w2⟩ | ⟨rfl, w1, w2⟩
    · simp only [pc_Mod_isMended_0, pc_Mod_isMended_1, pc_Mod_isMended_2, pc_Mod_isMended_3, pc_Mod_isMended_4, pc_Mod_isMended_5, ma_go, ev_A, ev_B, ev_C, ev_D, Nat.reduceAdd, List.mem_cons, List.not_mem_nil, or_false, or_true, true_or, false_or, or_self, Nat.reduceEqDiff, reduceCtorEq, ↓reduceIte, List.length_cons, List.length_nil, Nat.reduceLT, Nat.reduceLeDiff, Nat.le_refl, implies_true, true_and, and_true, Option.toList, List.cons_append, List.nil_append]
      have h72 : H2.1 184 7 = nI n := by rw [o3.2 184 (by decide)]; exact h7
      have t := im_put (l := l) (g := g) (x := x) (Q := Q) (n := n) (R := hcL cl sd b ws) (G := nI (gf_cn 16 (gn cl b))) hp2 hb hl hn h72 hcl (ar_on o3 (by decide) h1) (ar_on o3 (by decide) h2) w1.1 (fun s hs e => hsd s hs e _ hl) w2 (fun H3 o4 b4 => by
        refine ma_run0 po_Mod_isMended rfl rfl [36] 80 ?_
        simp only [pc_Mod_isMended_0, pc_Mod_isMended_1, pc_Mod_isMended_2, pc_Mod_isMended_3, pc_Mod_isMended_4, pc_Mod_isMended_5, ma_go, ev_A, ev_B, ev_C, ev_D, Nat.reduceAdd, List.mem_cons, List.not_mem_nil, or_false, or_true, true_or, false_or, or_self, Nat.reduceEqDiff, reduceCtorEq, ↓reduceIte, List.length_cons, List.length_nil, Nat.reduceLT, Nat.reduceLeDiff, Nat.le_refl, implies_true, true_and, and_true, Option.toList, List.cons_append, List.nil_append]
        rw [nx_1]
        refine ih (w :: ws) H3 (by simp; omega) (on_tr o3 (on_mo o4 (by simp))) ⟨w1, h3⟩ (fun k hk => ?_)
        rw [b4 k hk]
        show _ = cw b ws.length 16 w (cwL b (h0.1 189) ws) k
        unfold cw
        by_cases q : 40 * b ≤ k ∧ k < 40 * b + 40 ∧ (k - 40 * b) % 4 = ws.length ∧ (k - 40 * b) / 4 < 16
        · rw [if_pos q, if_pos q]
        · rw [if_neg q, if_neg q, e189, h4 k hk]) 16 0 H2 (by omega) (on_rf H2 _) (fun k _ => by unfold cw; rw [if_neg (by omega)])
      rw [show bz (tR (hcL cl sd b ws) (ht cl sd w b ws.length) 0) 16 = bz (hcL cl sd b ws) 16 from bz_congr (fun t _ => by unfold tR; simp)] at t
      exact t
    · simp only [pc_Mod_isMended_0, pc_Mod_isMended_1, pc_Mod_isMended_2, pc_Mod_isMended_3, pc_Mod_isMended_4, pc_Mod_isMended_5, ma_go, ev_A, ev_B, ev_C, ev_D, Nat.reduceAdd, List.mem_cons, List.not_mem_nil, or_false, or_true, true_or, false_or, or_self, Nat.reduceEqDiff, reduceCtorEq, ↓reduceIte, List.length_cons, List.length_nil, Nat.reduceLT, Nat.reduceLeDiff, Nat.le_refl, implies_true, true_and, and_true, Option.toList, List.cons_append, List.nil_append]
      have t1 := hN H2 ws.length (hcL cl sd b ws) o3 hl w1 (fun k hk q => by rw [e189, h4 k hk, cwL_out q])
      have t2 := ma_J.less (ls' := [some (.ref 184), some (.int (nI b)), some (.int (nI (gf_cn 16 (gn cl b)))), some (.int (nI (bz (hcL cl sd b ws) 16))), some (.int (nI 0)), some (.int (nI (ws.length + 1))), some (.int (nI 0)), none]) t1 ⟨rfl, rfl, rfl, rfl, rfl, trivial⟩
      have t3 : nJ l g x Q 148 [some (.ref 184), some (.int (nI b)), some (.int (nI (gf_cn 16 (gn cl b)))), some (.int (nI (bz (hcL cl sd b ws) 16))), some (.int (nI 0)), some (.int (nI ws.length)), some (.int (nI 0)), none] [] 0 0 GS H2 := by
        refine ma_run0 po_Mod_isMended rfl rfl [41, 150] 80 ?_
        simp only [pc_Mod_isMended_0, pc_Mod_isMended_1, pc_Mod_isMended_2, pc_Mod_isMended_3, pc_Mod_isMended_4, pc_Mod_isMended_5, ma_go, ev_A, ev_B, ev_C, ev_D, Nat.reduceAdd, List.mem_cons, List.not_mem_nil, or_false, or_true, true_or, false_or, or_self, Nat.reduceEqDiff, reduceCtorEq, ↓reduceIte, List.length_cons, List.length_nil, Nat.reduceLT, Nat.reduceLeDiff, Nat.le_refl, implies_true, true_and, and_true, Option.toList, List.cons_append, List.nil_append]
        simp only [nI_add, not_true_eq_false, false_implies, true_implies, and_true]
        exact ⟨fun _ => t2, fun _ => t2⟩
      refine ma_run0 po_Mod_isMended rfl rfl [88, 148] 80 ?_
      simp only [pc_Mod_isMended_0, pc_Mod_isMended_1, pc_Mod_isMended_2, pc_Mod_isMended_3, pc_Mod_isMended_4, pc_Mod_isMended_5, ma_go, ev_A, ev_B, ev_C, ev_D, Nat.reduceAdd, List.mem_cons, List.not_mem_nil, or_false, or_true, true_or, false_or, or_self, Nat.reduceEqDiff, reduceCtorEq, ↓reduceIte, List.length_cons, List.length_nil, Nat.reduceLT, Nat.reduceLeDiff, Nat.le_refl, implies_true, true_and, and_true, Option.toList, List.cons_append, List.nil_append]
      simp only [not_true_eq_false, false_implies, true_implies, and_true]
      exact ⟨fun _ => t3, fun _ => t3⟩
end
set_option maxRecDepth 30000 in
theorem m_isMended (l : Launch) (g : ma_G) (x : Bool) {h : ma_H} (hp : pt_ok h) (hm : mt_ok h) {n b : Nat} {cl sd : Nat → Nat} (hb : b < 4) (hn : n ≤ 160) (h7 : h.1 184 7 = nI n) (hcl : ∀ k, k < 64 → cl k < 1000) (h1 : ar h 194 64 cl) (h2 : ar h 195 256 sd) (hsd : ∀ s, s < 16 → cl (16 * b + s) = 1 → ∀ c, c < 4 → sd (4 * (16 * b + s) + c) < 256) : ma_PM l g x me_Mod_isMended [.ref 184, .int (nI b)] GS h (fun v S' h' => S' = GS ∧ on h h' [189, 190, 191, 196, 197, 198] ∧ h'.1 190 b = nI (gf_cn 16 (gn cl b)) ∧ (∀ k, k ≠ b → h'.1 190 k = h.1 190 k) ∧ (∀ k, k ≠ b → h'.1 191 k = h.1 191 k) ∧ fbM n cl sd b (h.1 189) v (h'.1 191 b) (h'.1 189)) := by
  refine ma_PM_of (P := pr_Mod_isMended) (by decide) rfl (Nat.le_of_ble_eq_true rfl) ?_
  show ma_J l g x none me_Mod_isMended pr_Mod_isMended _ 0 [some (.ref 184), some (.int (nI b)), none, none, none, none, none, none] [] 0 0 GS h
  generalize hQ : (fun (v : Option Value) (S' : ma_S) (h' : ma_H) => S' = GS ∧ on h h' [189, 190, 191, 196, 197, 198] ∧ h'.1 190 b = nI (gf_cn 16 (gn cl b)) ∧ (∀ k, k ≠ b → h'.1 190 k = h.1 190 k) ∧ (∀ k, k ≠ b → h'.1 191 k = h.1 191 k) ∧ fbM n cl sd b (h.1 189) v (h'.1 191 b) (h'.1 189)) = Q
  refine ma_run0 po_Mod_isMended rfl rfl [4] 80 ?_
  simp only [pc_Mod_isMended_0, pc_Mod_isMended_1, pc_Mod_isMended_2, pc_Mod_isMended_3, pc_Mod_isMended_4, pc_Mod_isMended_5, ma_go, ev_A, ev_B, ev_C, ev_D, Nat.reduceAdd, List.mem_cons, List.not_mem_nil, or_false, or_true, true_or, false_or, or_self, Nat.reduceEqDiff, reduceCtorEq, ↓reduceIte, List.length_cons, List.length_nil, Nat.reduceLT, Nat.reduceLeDiff, Nat.le_refl, implies_true, true_and, and_true, Option.toList, List.cons_append, List.nil_append]
  refine im_gone (cl := cl) hp hb hcl h1 ?_ 16 0 (by omega)
  refine ma_run0 po_Mod_isMended rfl rfl [36] 80 ?_
  simp only [pc_Mod_isMended_0, pc_Mod_isMended_1, pc_Mod_isMended_2, pc_Mod_isMended_3, pc_Mod_isMended_4, pc_Mod_isMended_5, ma_go, ev_A, ev_B, ev_C, ev_D, Nat.reduceAdd, List.mem_cons, List.not_mem_nil, or_false, or_true, true_or, false_or, or_self, Nat.reduceEqDiff, reduceCtorEq, ↓reduceIte, List.length_cons, List.length_nil, Nat.reduceLT, Nat.reduceLeDiff, Nat.le_refl, implies_true, true_and, and_true, Option.toList, List.cons_append, List.nil_append, gs_184, pt_Mod hp]
  rw [nI_clamp (n := b) (by omega)]
  have o1 : on h (ma_uI h 190 b (nI (gf_cn 16 (gn cl b)))) [190] := on_uI (on_rf h _) _ _ (by simp)
  refine ⟨ma_in_of gs_190 hb (by decide), ?_⟩
  have g1 : (ma_uI h 190 b (nI (gf_cn 16 (gn cl b)))).1 190 b = nI (gf_cn 16 (gn cl b)) := uI_same _ _ _ _
  have g2 : ∀ k, k ≠ b → (ma_uI h 190 b (nI (gf_cn 16 (gn cl b)))).1 190 k = h.1 190 k := fun k hk => uI_ne (fun z => hk z.2)
  generalize ma_uI h 190 b (nI (gf_cn 16 (gn cl b))) = h0 at o1 g1 g2
  have e189 : h0.1 189 = h.1 189 := o1.2 189 (by decide)
  have e191 : h0.1 191 = h.1 191 := o1.2 191 (by decide)
  have h70 : h0.1 184 7 = nI n := by rw [o1.2 184 (by decide)]; exact h7
  have t := im_all (l := l) (g := g) (x := x) (Q := Q) (n := n) (on_pt o1 hp) (mt_on o1 (by decide) (by decide) hm) hb hn h70 hcl (ar_on o1 (by decide) h1) (ar_on o1 (by decide) h2) hsd (fun H ws oH l4 md bt => by
    have o2 := on_tr (on_mo (L' := [189, 190, 191, 196, 197, 198]) o1 (by simp)) (on_mo (L' := [189, 190, 191, 196, 197, 198]) oH (by simp))
    have hpH := on_pt o2 hp
    have t1 := ma_in_of (i := b) gs_191 hb (by decide)
    refine ma_run0 po_Mod_isMended rfl rfl [157] 80 ?_
    simp only [pc_Mod_isMended_0, pc_Mod_isMended_1, pc_Mod_isMended_2, pc_Mod_isMended_3, pc_Mod_isMended_4, pc_Mod_isMended_5, ma_go, ev_A, ev_B, ev_C, ev_D, Nat.reduceAdd, List.mem_cons, List.not_mem_nil, or_false, or_true, true_or, false_or, or_self, Nat.reduceEqDiff, reduceCtorEq, ↓reduceIte, List.length_cons, List.length_nil, Nat.reduceLT, Nat.reduceLeDiff, Nat.le_refl, implies_true, true_and, and_true, Option.toList, List.cons_append, List.nil_append, gs_184, pt_Mod hpH]
    rw [nI_clamp (n := b) (by omega)]
    have o3 : on H (ma_uI H 191 b (nI 0)) [191] := on_uI (on_rf H _) _ _ (by simp)
    refine ⟨t1, im_bits (on_pt o3 hpH) hb (bz_lt _ 16) (fun H2 p1 p2 p3 => ?_) 16 0 _ (by omega) (on_rf _ _) (uI_same _ _ _ _) (fun k hk => rfl)⟩
    have o4 := on_tr o2 (on_tr (on_mo (L' := [189, 190, 191, 196, 197, 198]) o3 (by simp)) (on_mo (L' := [189, 190, 191, 196, 197, 198]) p1 (by simp)))
    have hp4 := on_pt o4 hp
    have f1 : H2.1 190 = h0.1 190 := by rw [p1.2 190 (by decide), o3.2 190 (by decide), oH.2 190 (by decide)]
    have f2 : H2.1 189 = H.1 189 := by rw [p1.2 189 (by decide), o3.2 189 (by decide)]
    have fin : nJ l g x Q 205 [some (.ref 184), some (.int (nI b)), some (.int (nI (gf_cn 16 (gn cl b)))), some (.int (nI (bz (hcL cl sd b ws) 16))), some (.int (nI 1)), some (.int (nI (40 * b))), none, none] [] 0 0 GS H2 := by
      refine ma_run0 po_Mod_isMended rfl rfl [] 80 ?_
      simp only [pc_Mod_isMended_0, pc_Mod_isMended_1, pc_Mod_isMended_2, pc_Mod_isMended_3, pc_Mod_isMended_4, pc_Mod_isMended_5, ma_go, ev_A, ev_B, ev_C, ev_D, Nat.reduceAdd, List.mem_cons, List.not_mem_nil, or_false, or_true, true_or, false_or, or_self, Nat.reduceEqDiff, reduceCtorEq, ↓reduceIte, List.length_cons, List.length_nil, Nat.reduceLT, Nat.reduceLeDiff, Nat.le_refl, implies_true, true_and, and_true, Option.toList, List.cons_append, List.nil_append]
      rw [← hQ]
      refine ⟨rfl, o4, by rw [f1]; exact g1, fun k hk => by rw [f1]; exact g2 k hk, fun k hk => ?_, Or.inl ⟨rfl, ws, l4, md, ?_, fun k hk => ?_⟩⟩
      · rw [p3 k hk, uI_ne (fun z => hk z.2), oH.2 191 (by decide), e191]
      · rw [p2, bz_cn]
      · rw [f2, bt k hk, e189]
    refine ma_run0 po_Mod_isMended rfl rfl [191, 200, 205] 80 ?_
    simp only [pc_Mod_isMended_0, pc_Mod_isMended_1, pc_Mod_isMended_2, pc_Mod_isMended_3, pc_Mod_isMended_4, pc_Mod_isMended_5, ma_go, ev_A, ev_B, ev_C, ev_D, Nat.reduceAdd, List.mem_cons, List.not_mem_nil, or_false, or_true, true_or, false_or, or_self, Nat.reduceEqDiff, reduceCtorEq, ↓reduceIte, List.length_cons, List.length_nil, Nat.reduceLT, Nat.reduceLeDiff, Nat.le_refl, implies_true, true_and, and_true, Option.toList, List.cons_append, List.nil_append, gs_184]
    simp only [pk_mul, nI_add, n10, not_false_eq_true, true_implies, false_implies, and_true, true_and]
    exact ⟨fun _ => fin, fun _ => ⟨fun _ => fin, fun _ => fin⟩⟩) (fun H c R oH c4 md bt => by
    have o2 := on_tr (on_mo (L' := [189, 190, 191, 196, 197, 198]) o1 (by simp)) (on_mo (L' := [189, 190, 191, 196, 197, 198]) oH (by simp))
    have hpH := on_pt o2 hp
    have t1 := ma_in_of (i := b) gs_191 hb (by decide)
    refine ma_run0 po_Mod_isMended rfl rfl [157] 80 ?_
    simp only [pc_Mod_isMended_0, pc_Mod_isMended_1, pc_Mod_isMended_2, pc_Mod_isMended_3, pc_Mod_isMended_4, pc_Mod_isMended_5, ma_go, ev_A, ev_B, ev_C, ev_D, Nat.reduceAdd, List.mem_cons, List.not_mem_nil, or_false, or_true, true_or, false_or, or_self, Nat.reduceEqDiff, reduceCtorEq, ↓reduceIte, List.length_cons, List.length_nil, Nat.reduceLT, Nat.reduceLeDiff, Nat.le_refl, implies_true, true_and, and_true, Option.toList, List.cons_append, List.nil_append, gs_184, pt_Mod hpH]
    rw [nI_clamp (n := b) (by omega)]
    have o3 : on H (ma_uI H 191 b (nI 0)) [191] := on_uI (on_rf H _) _ _ (by simp)
    refine ⟨t1, im_bits (on_pt o3 hpH) hb (bz_lt R 16) (fun H2 p1 p2 p3 => ?_) 16 0 _ (by omega) (on_rf _ _) (uI_same _ _ _ _) (fun k hk => rfl)⟩
    have o4 := on_tr o2 (on_tr (on_mo (L' := [189, 190, 191, 196, 197, 198]) o3 (by simp)) (on_mo (L' := [189, 190, 191, 196, 197, 198]) p1 (by simp)))
    have hp4 := on_pt o4 hp
    have f1 : H2.1 190 = h0.1 190 := by rw [p1.2 190 (by decide), o3.2 190 (by decide), oH.2 190 (by decide)]
    have f2 : H2.1 189 = H.1 189 := by rw [p1.2 189 (by decide), o3.2 189 (by decide)]
    have h74 : H2.1 184 7 = nI n := by rw [o4.2 184 (by decide)]; exact h7
    refine ma_run0 po_Mod_isMended rfl rfl [178] 80 ?_
    simp only [pc_Mod_isMended_0, pc_Mod_isMended_1, pc_Mod_isMended_2, pc_Mod_isMended_3, pc_Mod_isMended_4, pc_Mod_isMended_5, ma_go, ev_A, ev_B, ev_C, ev_D, Nat.reduceAdd, List.mem_cons, List.not_mem_nil, or_false, or_true, true_or, false_or, or_self, Nat.reduceEqDiff, reduceCtorEq, ↓reduceIte, List.length_cons, List.length_nil, Nat.reduceLT, Nat.reduceLeDiff, Nat.le_refl, implies_true, true_and, and_true, Option.toList, List.cons_append, List.nil_append]
    rw [pk_mul]
    refine im_zero hp4 hb hn h74 (fun H3 r1 r2 => ?_) 40 0 H2 (by omega) (on_rf _ _) (fun k => by rw [if_neg (by omega)])
    have o5 := on_tr o4 (on_mo (L' := [189, 190, 191, 196, 197, 198]) r1 (by simp))
    have f3 : H3.1 191 = H2.1 191 := r1.2 191 (by decide)
    have f4 : H3.1 190 = H2.1 190 := r1.2 190 (by decide)
    refine ma_run0 po_Mod_isMended rfl rfl [] 80 ?_
    simp only [pc_Mod_isMended_0, pc_Mod_isMended_1, pc_Mod_isMended_2, pc_Mod_isMended_3, pc_Mod_isMended_4, pc_Mod_isMended_5, ma_go, ev_A, ev_B, ev_C, ev_D, Nat.reduceAdd, List.mem_cons, List.not_mem_nil, or_false, or_true, true_or, false_or, or_self, Nat.reduceEqDiff, reduceCtorEq, ↓reduceIte, List.length_cons, List.length_nil, Nat.reduceLT, Nat.reduceLeDiff, Nat.le_refl, implies_true, true_and, and_true, Option.toList, List.cons_append, List.nil_append, gs_184, pt_Mod (on_pt o5 hp)]
    rw [nI_clamp (n := b) (by omega)]
    refine ⟨fun q => absurd trivial q, fun _ => ⟨t1, ?_⟩⟩
    have o6 : on H3 (ma_uI H3 191 b (-1)) [191] := on_uI (on_rf H3 _) _ _ (by simp)
    rw [← hQ]
    refine ⟨rfl, on_tr o5 (on_mo o6 (by simp)), ?_, fun k hk => ?_, fun k hk => ?_, Or.inr ⟨rfl, ⟨c, c4, md⟩, uI_same _ _ _ _, fun k hk => ⟨fun q => ?_, fun q => ?_⟩⟩⟩
    · rw [o6.2 190 (by decide), f4, f1]; exact g1
    · rw [o6.2 190 (by decide), f4, f1]; exact g2 k hk
    · rw [uI_ne (fun z => hk z.2), f3, p3 k hk, uI_ne (fun z => hk z.2), oH.2 191 (by decide), e191]
    · rw [o6.2 189 (by decide), r2 k hk, if_pos q]
    · rw [o6.2 189 (by decide), r2 k hk, if_neg q, f2, bt k hk q, e189]) 4 [] h0 rfl (on_rf h0 _) trivial (fun k hk => rfl)
  rw [show bz (hcL cl sd b []) 16 = 0 by unfold hcL; decide] at t
  exact t
