/-! the class's Decoding.finishBlock; the columns mended so far as a list, the last first -/
def mdL (cl sd : Nat → Nat) (b : Nat) : List (Nat → Nat) → Prop
  | [] => True
  | w :: ws => gf_md (co cl sd b ws.length) (gn cl b) w ∧ mdL cl sd b ws
def hcL (cl sd : Nat → Nat) (b : Nat) : List (Nat → Nat) → Nat → Bool
  | [] => fun _ => false
  | w :: ws => tR (hcL cl sd b ws) (ht cl sd w b ws.length) 16
def cwL (b : Nat) (o : Nat → Int32) : List (Nat → Nat) → Nat → Int32
  | [] => o
  | w :: ws => cw b ws.length 16 w (cwL b o ws)
/-- what is told of the block b -/
def fbP (cl sd : Nat → Nat) (b : Nat) (o : Nat → Int32) (v : Option Value) (ch : Int32) (by' : Nat → Int32) : Prop :=
  (v = some (.int (nI 1)) ∧ ∃ ws, ws.length = 4 ∧ mdL cl sd b ws ∧ ch = nI (gf_cn 16 (hcL cl sd b ws)) ∧ ∀ k, by' k = cwL b o ws k) ∨
  (v = some (.int (nI 0)) ∧ (∃ c, c < 4 ∧ ∀ w, ¬ gf_md (co cl sd b c) (gn cl b) w) ∧ ch = -1 ∧ ∀ k, (40 * b ≤ k ∧ k < 40 * b + 40 → by' k = nI 0) ∧ (¬ (40 * b ≤ k ∧ k < 40 * b + 40) → by' k = o k))
theorem cw_out {b c s : Nat} {w : Nat → Nat} {o : Nat → Int32} {k : Nat} (h : ¬ (40 * b ≤ k ∧ k < 40 * b + 40)) : cw b c s w o k = o k := if_neg (fun z => h ⟨z.1, z.2.1⟩)
theorem cwL_out {b : Nat} {o : Nat → Int32} {k : Nat} (h : ¬ (40 * b ≤ k ∧ k < 40 * b + 40)) : ∀ ws, cwL b o ws k = o k
  | [] => rfl
  | w :: ws => by
    show cw b ws.length 16 w (cwL b o ws) k = o k
    rw [cw_out h, cwL_out h ws]
theorem m_finishBlock (l : Launch) (g : ma_G) (x : Bool) {h : ma_H} (hp : pt_ok h) (hf : fd_ok h) {n fx dr b : Nat} {cl sd : Nat → Nat} (hb : b < 4) (hcl : ∀ k, k < 64 → cl k < 1000) (hsd : ∀ s, s < 16 → cl (16 * b + s) = 1 → ∀ c, c < 4 → sd (4 * (16 * b + s) + c) < 256) (hd : dst h n cl sd fx dr) : ma_PM l g x me_Dec_finishBlock [.ref 175, .int (nI b)] GS h (fun v S' h' => S' = GS ∧ on h h' [164, 165, 166, 167, 168, 169, 170, 171, 175, 181, 182, 183] ∧ dst h' n cl sd fx (dr + sm 16 (dp cl b)) ∧ h'.1 182 b = nI (gf_cn 16 (gn cl b)) ∧ (∀ k, k ≠ b → h'.1 182 k = h.1 182 k) ∧ (∀ k, k ≠ b → h'.1 183 k = h.1 183 k) ∧ fbP cl sd b (h.1 181) v (h'.1 183 b) (h'.1 181)) := by
  refine ma_PM_of (P := pr_Dec_finishBlock) (by decide) rfl (Nat.le_of_ble_eq_true rfl) ?_
  show ma_J l g x none me_Dec_finishBlock pr_Dec_finishBlock _ 0 [some (.ref 175), some (.int (nI b)), none] [] 0 0 GS h
  generalize hQ : (fun (v : Option Value) (S' : ma_S) (h' : ma_H) => S' = GS ∧ on h h' [164, 165, 166, 167, 168, 169, 170, 171, 175, 181, 182, 183] ∧ dst h' n cl sd fx (dr + sm 16 (dp cl b)) ∧ h'.1 182 b = nI (gf_cn 16 (gn cl b)) ∧ (∀ k, k ≠ b → h'.1 182 k = h.1 182 k) ∧ (∀ k, k ≠ b → h'.1 183 k = h.1 183 k) ∧ fbP cl sd b (h.1 181) v (h'.1 183 b) (h'.1 181)) = Q
  have loop : ∀ m (ws : List (Nat → Nat)) H, ws.length + m = 4 → on h H [164, 165, 166, 167, 168, 169, 170, 171, 175, 181, 182] → dst H n cl sd fx (dr + sm 16 (dp cl b)) → H.1 182 b = nI (gf_cn 16 (gn cl b)) → (∀ k, k ≠ b → H.1 182 k = h.1 182 k) → mdL cl sd b ws → H.1 175 4 = nI (bz (hcL cl sd b ws) 16) → (∀ k, H.1 181 k = cwL b (h.1 181) ws k) → ma_J l g x none me_Dec_finishBlock pr_Dec_finishBlock Q 8 [some (.ref 175), some (.int (nI b)), some (.int (nI ws.length))] [] 0 0 GS H := by
    intro m
    induction m with
    | zero =>
      intro ws H hm ho hd h1 h2 h3 h4 h5
      have e : ws.length = 4 := by omega
      have hp' := on_pt ho hp
      rw [e]
      refine ma_run0 po_Dec_finishBlock rfl rfl [8] 60 ?_
      simp only [pa_Dec_finishBlock, ma_go, ev_A, ev_B, ev_C, ev_D, Nat.reduceAdd, List.mem_cons, List.not_mem_nil, or_false, or_true, true_or, false_or, or_self, Nat.reduceEqDiff, reduceCtorEq, ↓reduceIte, List.length_cons, List.length_nil, Nat.reduceLT, Nat.reduceLeDiff, Nat.le_refl, implies_true, true_and, and_true, Option.toList, List.cons_append, List.nil_append, gs_175, pt_Dec hp', h4]
      refine ⟨fun _ => ?_, fun q => absurd (nI_le (Nat.le_refl _) (by omega)) q⟩
      refine ma_callD mt_Itg_bitCount rfl rfl (Nat.le_of_ble_eq_true rfl) (Nat.le_refl _) (Nat.le_refl _) (m_bitCount l g x (bz_lt _ 16)) ?_
      simp only [pa_Dec_finishBlock, ma_go, ev_A, ev_B, ev_C, ev_D, Nat.reduceAdd, List.mem_cons, List.not_mem_nil, or_false, or_true, true_or, false_or, or_self, Nat.reduceEqDiff, reduceCtorEq, ↓reduceIte, List.length_cons, List.length_nil, Nat.reduceLT, Nat.reduceLeDiff, Nat.le_refl, implies_true, true_and, and_true, Option.toList, List.cons_append, List.nil_append, gs_175, pt_Dec hp']
      rw [nI_clamp (n := b) (by omega), bz_cn, ← hQ]
      have o2 : on H (ma_uI H 183 b (nI (gf_cn 16 (hcL cl sd b ws)))) [183] := on_uI (on_rf H _) _ _ (by simp)
      refine ⟨ma_in_of gs_183 hb (by decide), rfl, on_tr (on_mo ho (by simp)) (on_mo o2 (by simp)), dst_on o2 (by decide) (by decide) (by decide) hd, ?_, fun k hk => ?_, fun k hk => ?_, Or.inl ⟨rfl, ws, e, h3, uI_same _ _ _ _, fun k => ?_⟩⟩
      · rw [o2.2 182 (by decide)]; exact h1
      · rw [o2.2 182 (by decide)]; exact h2 k hk
      · rw [uI_ne (by omega), ho.2 183 (by decide)]
      · rw [o2.2 181 (by decide)]; exact h5 k
    | succ m ih =>
      intro ws H hm ho hd h1 h2 h3 h4 h5
      have hp' := on_pt ho hp
      refine ma_run0 po_Dec_finishBlock rfl rfl [8] 60 ?_
      simp only [pa_Dec_finishBlock, ma_go, ev_A, ev_B, ev_C, ev_D, Nat.reduceAdd, List.mem_cons, List.not_mem_nil, or_false, or_true, true_or, false_or, or_self, Nat.reduceEqDiff, reduceCtorEq, ↓reduceIte, List.length_cons, List.length_nil, Nat.reduceLT, Nat.reduceLeDiff, Nat.le_refl, implies_true, true_and, and_true, Option.toList, List.cons_append, List.nil_append, gs_175, pt_Dec hp']
      refine ⟨fun q => absurd q (nI_ge (by omega) (by omega)), fun _ => ?_⟩
      refine ma_callP mt_Dec_mendColumn rfl rfl (Nat.le_of_ble_eq_true rfl) (Nat.le_refl _) (Nat.le_refl _) (m_mendColumn l g x hp' (fd_on ho (by decide) (by decide) hf) hb (show ws.length < 4 by omega) hcl (fun s hs e => hsd s hs e _ (by omega)) hd h4) ?_
      intro v S' H2 hpost
      obtain ⟨rfl, o2, d2, hh⟩ := hpost
      have o3 := on_tr ho (on_mo (L' := [164, 165, 166, 167, 168, 169, 170, 171, 175, 181, 182]) o2 (by simp))
      have hp2 := on_pt o3 hp
      have g1 : H2.1 182 = H.1 182 := o2.2 182 (by decide)
      rcases hh with ⟨rfl, w, w1, w2, w3⟩ | ⟨rfl, w1, w2⟩
      · simp only [pa_Dec_finishBlock, ma_go, ev_A, ev_B, ev_C, ev_D, Nat.reduceAdd, List.mem_cons, List.not_mem_nil, or_false, or_true, true_or, false_or, or_self, Nat.reduceEqDiff, reduceCtorEq, ↓reduceIte, List.length_cons, List.length_nil, Nat.reduceLT, Nat.reduceLeDiff, Nat.le_refl, implies_true, true_and, and_true, Option.toList, List.cons_append, List.nil_append]
        refine ⟨fun _ => ?_, fun q => absurd q (by decide +kernel)⟩
        rw [nx_1]
        exact ih (w :: ws) H2 (by simp; omega) o3 d2 (by rw [g1]; exact h1) (fun k hk => by rw [g1]; exact h2 k hk) ⟨w1, h3⟩ w2 (fun k => by
          rw [w3 k]
          show _ = cw b ws.length 16 w (cwL b (h.1 181) ws) k
          rw [show H.1 181 = cwL b (h.1 181) ws from funext h5])
      · simp only [pa_Dec_finishBlock, ma_go, ev_A, ev_B, ev_C, ev_D, Nat.reduceAdd, List.mem_cons, List.not_mem_nil, or_false, or_true, true_or, false_or, or_self, Nat.reduceEqDiff, reduceCtorEq, ↓reduceIte, List.length_cons, List.length_nil, Nat.reduceLT, Nat.reduceLeDiff, Nat.le_refl, implies_true, true_and, and_true, Option.toList, List.cons_append, List.nil_append, gs_175]
        refine ⟨fun q => absurd trivial q, fun _ => ?_⟩
        refine ma_callP mt_Dec_loseBlock rfl rfl (Nat.le_of_ble_eq_true rfl) (Nat.le_refl _) (Nat.le_refl _) (m_loseBlock l g x hp2 hb) ?_
        intro v S' H3 hpost
        obtain ⟨rfl, rfl, o4, a1, a2, a3⟩ := hpost
        simp only [pa_Dec_finishBlock, ma_go, ev_A, ev_B, ev_C, ev_D, Nat.reduceAdd, List.mem_cons, List.not_mem_nil, or_false, or_true, true_or, false_or, or_self, Nat.reduceEqDiff, reduceCtorEq, ↓reduceIte, List.length_cons, List.length_nil, Nat.reduceLT, Nat.reduceLeDiff, Nat.le_refl, implies_true, true_and, and_true, Option.toList, List.cons_append, List.nil_append]
        rw [← hQ]
        refine ⟨rfl, on_tr (on_mo o3 (by simp)) (on_mo o4 (by simp)), dst_on o4 (by decide) (by decide) (by decide) d2, ?_, fun k hk => ?_, fun k hk => ?_, Or.inr ⟨rfl, ⟨ws.length, by omega, w1⟩, a1, fun k => ⟨fun q => ?_, fun q => ?_⟩⟩⟩
        · rw [o4.2 182 (by decide), g1]; exact h1
        · rw [o4.2 182 (by decide), g1]; exact h2 k hk
        · rw [a2 k hk, o2.2 183 (by decide), ho.2 183 (by decide)]
        · rw [a3 k, if_pos q]
        · rw [a3 k, if_neg q, w2, h5 k, cwL_out q]
  refine ma_run0 po_Dec_finishBlock rfl rfl [8] 60 ?_
  simp only [pa_Dec_finishBlock, ma_go, ev_A, ev_B, ev_C, ev_D, Nat.reduceAdd, List.mem_cons, List.not_mem_nil, or_false, or_true, true_or, false_or, or_self, Nat.reduceEqDiff, reduceCtorEq, ↓reduceIte, List.length_cons, List.length_nil, Nat.reduceLT, Nat.reduceLeDiff, Nat.le_refl, implies_true, true_and, and_true, Option.toList, List.cons_append, List.nil_append, gs_175]
  refine ma_callP mt_Dec_settleSlots rfl rfl (Nat.le_of_ble_eq_true rfl) (Nat.le_refl _) (Nat.le_refl _) (m_settleSlots l g x hp hb hcl hd) ?_
  intro v S' H hpost
  obtain ⟨rfl, rfl, o2, a1, a2, a3⟩ := hpost
  simp only [pa_Dec_finishBlock, ma_go, ev_A, ev_B, ev_C, ev_D, Nat.reduceAdd, List.mem_cons, List.not_mem_nil, or_false, or_true, true_or, false_or, or_self, Nat.reduceEqDiff, reduceCtorEq, ↓reduceIte, List.length_cons, List.length_nil, Nat.reduceLT, Nat.reduceLeDiff, Nat.le_refl, implies_true, true_and, and_true, Option.toList, List.cons_append, List.nil_append, gs_175]
  have o3 : on H (ma_uI H 175 4 (nI 0)) [175] := on_uI (on_rf H _) _ _ (by simp)
  refine loop 4 [] _ rfl (on_tr (on_mo o2 (by simp)) (on_mo o3 (by simp))) (dst_4 _ a3) ?_ (fun k hk => ?_) trivial ?_ (fun k => ?_)
  · rw [uI_ne (by omega)]; exact a1
  · rw [uI_ne (by omega)]; exact a2 k hk
  · rw [uI_same, show bz (hcL cl sd b []) 16 = 0 by unfold hcL; decide]
  · rw [uI_ne (by omega), o2.2 181 (by decide)]
    rfl
