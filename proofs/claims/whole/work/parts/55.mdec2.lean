/-! decode of the reference -/
section
variable {l : Launch} {g : ma_G} {x : Bool} {Q : ma_P}
set_option maxRecDepth 30000 in
theorem dc_clear {h0 : ma_H} (hp : pt_ok h0) {n B : Int32}
    (hK : ∀ h, on h0 h [194] → ar h 194 64 (fun _ => 0) → dJ l g x Q 37 [some (.ref 184), some (.int n), some (.int B), none, none, none] [] 0 0 GS h) :
    ∀ m k h, k + m = 64 → on h0 h [194] → ar h 194 k (fun _ => 0) → dJ l g x Q 27 [some (.ref 184), some (.int n), some (.int B), some (.int (nI k)), none, none] [] 0 0 GS h := by
  intro m
  induction m with
  | zero =>
    intro k h hk ho ha
    have e : k = 64 := by omega
    subst e
    have t := ma_J.less (ls' := [some (.ref 184), some (.int n), some (.int B), some (.int (nI 64)), none, none]) (hK h ho ha) ⟨rfl, rfl, rfl, trivial⟩
    refine ma_run0 po_Mod_decode rfl rfl [27, 37] 80 ?_
    simp only [pc_Mod_decode_0, pc_Mod_decode_1, pc_Mod_decode_2, pc_Mod_decode_3, pc_Mod_decode_4, ma_go, ev_A, ev_B, ev_C, ev_D, Nat.reduceAdd, List.mem_cons, List.not_mem_nil, or_false, or_true, true_or, false_or, or_self, Nat.reduceEqDiff, reduceCtorEq, ↓reduceIte, List.length_cons, List.length_nil, Nat.reduceLT, Nat.reduceLeDiff, Nat.le_refl, implies_true, true_and, and_true, Option.toList, List.cons_append, List.nil_append]
    exact ⟨fun _ => t, fun q => absurd (nI_le (Nat.le_refl _) (by omega)) q⟩
  | succ m ih =>
    intro k h hk ho ha
    have i2 := ih (k + 1) (ma_uI h 194 k (nI 0)) (by omega) (on_uI ho _ _ (by simp)) (ar_pu rfl ha)
    refine ma_run0 po_Mod_decode rfl rfl [27, 37] 80 ?_
    simp only [pc_Mod_decode_0, pc_Mod_decode_1, pc_Mod_decode_2, pc_Mod_decode_3, pc_Mod_decode_4, ma_go, ev_A, ev_B, ev_C, ev_D, Nat.reduceAdd, List.mem_cons, List.not_mem_nil, or_false, or_true, true_or, false_or, or_self, Nat.reduceEqDiff, reduceCtorEq, ↓reduceIte, List.length_cons, List.length_nil, Nat.reduceLT, Nat.reduceLeDiff, Nat.le_refl, implies_true, true_and, and_true, Option.toList, List.cons_append, List.nil_append, gs_184, pt_Mod (on_pt ho hp)]
    rw [nI_clamp (n := k) (by omega), nx_1]
    exact ⟨fun q => absurd q (nI_ge (by omega) (by omega)), fun _ => ⟨ma_in_of gs_194 (by omega) (by decide), i2⟩⟩
set_option maxRecDepth 30000 in
theorem dc_drop {h0 : ma_H} (hp : pt_ok h0) {n R fx dr : Nat} {W B wl : Int32} {cl sd : Nat → Nat} (hcl : ∀ k, k < 64 → cl k < 1000)
    (hK : ∀ h, on h0 h [184] → mst h n W R cl sd fx (dr + sm 64 (dq cl)) → dJ l g x Q 178 [some (.ref 184), some (.int (nI n)), some (.int B), some (.int wl), none, none] [] 0 0 GS h) :
    ∀ m k h, k + m = 64 → on h0 h [184] → mst h n W R cl sd fx (dr + sm k (dq cl)) → dJ l g x Q 156 [some (.ref 184), some (.int (nI n)), some (.int B), some (.int wl), some (.int (nI k)), none] [] 0 0 GS h := by
  intro m
  induction m with
  | zero =>
    intro k h hk ho hd
    have e : k = 64 := by omega
    subst e
    have t := ma_J.less (ls' := [some (.ref 184), some (.int (nI n)), some (.int B), some (.int wl), some (.int (nI 64)), none]) (hK h ho hd) ⟨rfl, rfl, rfl, rfl, trivial⟩
    refine ma_run0 po_Mod_decode rfl rfl [156, 159, 178] 80 ?_
    simp only [pc_Mod_decode_0, pc_Mod_decode_1, pc_Mod_decode_2, pc_Mod_decode_3, pc_Mod_decode_4, ma_go, ev_A, ev_B, ev_C, ev_D, Nat.reduceAdd, List.mem_cons, List.not_mem_nil, or_false, or_true, true_or, false_or, or_self, Nat.reduceEqDiff, reduceCtorEq, ↓reduceIte, List.length_cons, List.length_nil, Nat.reduceLT, Nat.reduceLeDiff, Nat.le_refl, implies_true, true_and, and_true, Option.toList, List.cons_append, List.nil_append]
    exact ⟨fun _ => t, fun q => absurd (nI_le (Nat.le_refl _) (by omega)) q⟩
  | succ m ih =>
    intro k h hk ho hd
    have v1 := hd.2.2.2.1 k (by omega)
    have c1 := hcl k (by omega)
    have t1 := ma_in_of (i := k) gs_194 (by omega) (by decide)
    have go : ∀ e, e = dq cl k → dJ l g x Q 156 [some (.ref 184), some (.int (nI n)), some (.int B), some (.int wl), some (.int (nI (k + 1))), none] [] 0 0 GS (ma_uI h 184 9 (nI (dr + sm k (dq cl) + e))) := fun e he => by
      refine ih (k + 1) _ (by omega) (on_uI ho _ _ (by simp)) (mst_9 ?_ hd)
      rw [he, Nat.add_assoc]
      rfl
    refine ma_run0 po_Mod_decode rfl rfl [156, 178] 80 ?_
    simp only [pc_Mod_decode_0, pc_Mod_decode_1, pc_Mod_decode_2, pc_Mod_decode_3, pc_Mod_decode_4, ma_go, ev_A, ev_B, ev_C, ev_D, Nat.reduceAdd, List.mem_cons, List.not_mem_nil, or_false, or_true, true_or, false_or, or_self, Nat.reduceEqDiff, reduceCtorEq, ↓reduceIte, List.length_cons, List.length_nil, Nat.reduceLT, Nat.reduceLeDiff, Nat.le_refl, implies_true, true_and, and_true, Option.toList, List.cons_append, List.nil_append, gs_184, pt_Mod (on_pt ho hp), hd.2.2.1]
    rw [nI_clamp (n := k) (by omega), v1]
    simp only [nI_add]
    refine ⟨fun q => absurd q (nI_ge (by omega) (by omega)), fun _ => ⟨t1, fun q => go 0 ?_, fun q => ⟨t1, go _ ?_⟩⟩⟩
    · have := (nI_leI (by omega) (by omega)).mp q
      exact (if_neg (by omega)).symm
    · exact (if_pos (Nat.lt_of_not_le (fun z => q (nI_le z (by omega))))).symm
set_option maxRecDepth 30000 in
theorem dc_blocks {h0 : ma_H} (hp : pt_ok h0) (hm : mt_ok h0) {n R fx dr : Nat} {W : Int32} {cl sd : Nat → Nat} (hn : n ≤ 160) (hcl : ∀ k, k < 64 → cl k < 1000) (hsd : ∀ k, cl k = 1 → ∀ c, c < 4 → sd (4 * k + c) < 256) (hd0 : mst h0 n W R cl sd fx dr)
    (hK : ∀ h V, on h0 h [189, 190, 191, 196, 197, 198] → mst h n W R cl sd fx dr → (∀ b, b < bl n → h.1 190 b = nI (gf_cn 16 (gn cl b)) ∧ BR n cl sd b (V b) (h.1 191 b) (h.1 189)) → Q (some (.int (nI (aw V (bl n))))) GS h) :
    ∀ m b V h, b + m = bl n → on h0 h [189, 190, 191, 196, 197, 198] → (∀ c, c < b → h.1 190 c = nI (gf_cn 16 (gn cl c)) ∧ BR n cl sd c (V c) (h.1 191 c) (h.1 189)) → dJ l g x Q 180 [some (.ref 184), some (.int (nI n)), some (.int (nI (bl n))), some (.int (nI (aw V b))), some (.int (nI b)), none] [] 0 0 GS h := by
  have hB : bl n ≤ 4 := by unfold bl; omega
  intro m
  induction m with
  | zero =>
    intro b V h hm ho hc
    have e : b = bl n := by omega
    rw [e] at hc
    have t := hK h V ho (mst_on ho (by decide) (by decide) (by decide) hd0) hc
    rw [e]
    refine ma_run0 po_Mod_decode rfl rfl [180, 183] 80 ?_
    simp only [pc_Mod_decode_0, pc_Mod_decode_1, pc_Mod_decode_2, pc_Mod_decode_3, pc_Mod_decode_4, ma_go, ev_A, ev_B, ev_C, ev_D, Nat.reduceAdd, List.mem_cons, List.not_mem_nil, or_false, or_true, true_or, false_or, or_self, Nat.reduceEqDiff, reduceCtorEq, ↓reduceIte, List.length_cons, List.length_nil, Nat.reduceLT, Nat.reduceLeDiff, Nat.le_refl, implies_true, true_and, and_true, Option.toList, List.cons_append, List.nil_append]
    exact ⟨fun _ => t, fun q => absurd (nI_le (Nat.le_refl _) (by omega)) q⟩
  | succ m ih =>
    intro b V h hm2 ho hc
    have hp' := on_pt ho hp
    have hd := mst_on ho (by decide) (by decide) (by decide) hd0
    refine ma_run0 po_Mod_decode rfl rfl [180, 191] 80 ?_
    simp only [pc_Mod_decode_0, pc_Mod_decode_1, pc_Mod_decode_2, pc_Mod_decode_3, pc_Mod_decode_4, ma_go, ev_A, ev_B, ev_C, ev_D, Nat.reduceAdd, List.mem_cons, List.not_mem_nil, or_false, or_true, true_or, false_or, or_self, Nat.reduceEqDiff, reduceCtorEq, ↓reduceIte, List.length_cons, List.length_nil, Nat.reduceLT, Nat.reduceLeDiff, Nat.le_refl, implies_true, true_and, and_true, Option.toList, List.cons_append, List.nil_append, gs_184]
    refine ⟨fun q => absurd q (nI_ge (by omega) (by omega)), fun _ => ?_⟩
    refine ma_callP mt_Mod_isMended rfl rfl (Nat.le_of_ble_eq_true rfl) (Nat.le_refl _) (Nat.le_refl _) (m_isMended l g x hp' (mt_on ho (by decide) (by decide) hm) (show b < 4 by omega) hn hd.1 hcl hd.2.2.2.1 hd.2.2.2.2.1 (fun s hs e c c4 => hsd _ e c c4)) ?_
    intro v S' H2 hpost
    obtain ⟨rfl, o2, a1, a2, a3, a4⟩ := hpost
    have o3 := on_tr ho o2
    have hv : ∃ u, u < 2 ∧ v = some (.int (nI u)) ∧ BR n cl sd b u (H2.1 191 b) (H2.1 189) := by
      rcases a4 with ⟨rfl, ws, l4, md, c1, c2⟩ | ⟨rfl, no, c1, c2⟩
      · exact ⟨1, by decide, rfl, Or.inl ⟨rfl, ws, l4, md, c1, fun k hk hb => by rw [c2 k hk, cwL_in hb _ _ ws l4]⟩⟩
      · exact ⟨0, by decide, rfl, Or.inr ⟨rfl, no, c1, fun k hk hb => (c2 k hk).1 hb⟩⟩
    have hout : ∀ k, k < n → ¬ (40 * b ≤ k ∧ k < 40 * b + 40) → H2.1 189 k = h.1 189 k := fun k hn hk => by
      rcases a4 with ⟨rfl, ws, l4, md, c1, c2⟩ | ⟨rfl, no, c1, c2⟩
      · rw [c2 k hn, cwL_out hk]
      · exact (c2 k hn).2 hk
    obtain ⟨u, u2, rfl, br⟩ := hv
    have nxt : ∀ t, t = aw (up V b u) (b + 1) → dJ l g x Q 180 [some (.ref 184), some (.int (nI n)), some (.int (nI (bl n))), some (.int (nI t)), some (.int (nI (b + 1))), none] [] 0 0 GS H2 := fun t ht => by
      rw [ht]
      refine ih (b + 1) (up V b u) H2 (by omega) o3 (fun c hc2 => ?_)
      unfold up
      by_cases e : c = b
      · rw [if_pos e, e]
        exact ⟨a1, br⟩
      · rw [if_neg e, a2 c e, a3 c e]
        refine ⟨(hc c (by omega)).1, BR_keep (fun k hk1 hk => hout k hk1 (by omega)) (hc c (by omega)).2⟩
    have ea : aw (up V b u) b = aw V b := aw_congr b (fun c hc => if_neg (by omega))
    have es : aw (up V b u) (b + 1) = if u = 1 then aw V b else 0 := by
      rw [aw, ea]
      unfold up
      rw [if_pos rfl]
    simp only [pc_Mod_decode_0, pc_Mod_decode_1, pc_Mod_decode_2, pc_Mod_decode_3, pc_Mod_decode_4, ma_go, ev_A, ev_B, ev_C, ev_D, Nat.reduceAdd, List.mem_cons, List.not_mem_nil, or_false, or_true, true_or, false_or, or_self, Nat.reduceEqDiff, reduceCtorEq, ↓reduceIte, List.length_cons, List.length_nil, Nat.reduceLT, Nat.reduceLeDiff, Nat.le_refl, implies_true, true_and, and_true, Option.toList, List.cons_append, List.nil_append]
    rw [nx_1]
    by_cases e1 : u = 1
    · subst e1
      rw [if_pos rfl] at es
      exact ⟨fun _ => nxt _ es.symm, fun q => absurd q n10⟩
    · have e0 : u = 0 := by omega
      subst e0
      rw [if_neg (by decide)] at es
      exact ⟨fun z => absurd rfl z, fun _ => nxt 0 es.symm⟩
end
/-- the reference's reads -/
def md (h : ma_H) (R : Nat) (N : Nat → Nat) (F : Nat → Nat → Nat) : Prop := ∀ k, k < R → N k ≤ 60 ∧ h.1 188 k = nI (N k) ∧ ∀ i, i < N k → F k i < 4 ∧ h.1 187 (60 * k + i) = nI (F k i)
theorem md_on {h h' : ma_H} {L : List Nat} (ho : on h h' L) (h1 : 187 ∉ L) (h2 : 188 ∉ L) {R : Nat} {N : Nat → Nat} {F : Nat → Nat → Nat} (hr : md h R N F) : md h' R N F := fun k hk => by
  rw [ho.2 187 h1, ho.2 188 h2]
  exact hr k hk
section
variable (l : Launch) (g : ma_G) (x : Bool) {h : ma_H}
set_option maxRecDepth 30000 in
theorem m_mdecodeN {n : Int32} (hn : ¬ (nI 1 ≤ n ∧ n ≤ nI 160)) : ma_PM l g x me_Mod_decode [.ref 184, .int n] GS h (fun v S' h' => v = some (.int (-1)) ∧ S' = GS ∧ h' = ma_uI h 184 0 (nI 0)) := by
  refine ma_PM_of (P := pr_Mod_decode) (by decide) rfl (Nat.le_of_ble_eq_true rfl) ?_
  show ma_J l g x none me_Mod_decode pr_Mod_decode _ 0 [some (.ref 184), some (.int n), none, none, none, none] [] 0 0 GS h
  refine ma_run0 po_Mod_decode rfl rfl [10] 60 ?_
  simp only [pc_Mod_decode_0, pc_Mod_decode_1, pc_Mod_decode_2, pc_Mod_decode_3, pc_Mod_decode_4, ma_go, ev_A, ev_B, ev_C, ev_D, Nat.reduceAdd, List.mem_cons, List.not_mem_nil, or_false, or_true, true_or, false_or, or_self, Nat.reduceEqDiff, reduceCtorEq, ↓reduceIte, List.length_cons, List.length_nil, Nat.reduceLT, Nat.reduceLeDiff, Nat.le_refl, implies_true, true_and, and_true, Option.toList, List.cons_append, List.nil_append, gs_184]
  refine ma_callD mt_Mod_in rfl rfl (Nat.le_of_ble_eq_true rfl) (Nat.le_refl _) (Nat.le_refl _) (m_in l g x GS _ n (nI 1) (nI 160)) ?_
  simp only [pc_Mod_decode_0, pc_Mod_decode_1, pc_Mod_decode_2, pc_Mod_decode_3, pc_Mod_decode_4, ma_go, ev_A, ev_B, ev_C, ev_D, Nat.reduceAdd, List.mem_cons, List.not_mem_nil, or_false, or_true, true_or, false_or, or_self, Nat.reduceEqDiff, reduceCtorEq, ↓reduceIte, List.length_cons, List.length_nil, Nat.reduceLT, Nat.reduceLeDiff, Nat.le_refl, implies_true, true_and, and_true, Option.toList, List.cons_append, List.nil_append]
  rw [show decide (nI 1 ≤ n ∧ n ≤ nI 160) = false from decide_eq_false hn]
  exact fun q => absurd rfl q
set_option maxRecDepth 30000 in
theorem m_mdecode (hp : pt_ok h) (hm : mt_ok h) {n R : Nat} {N : Nat → Nat} {F : Nat → Nat → Nat} (hn : 1 ≤ n ∧ n ≤ 160) (hR : R ≤ 90) (e4 : h.1 184 4 = nI R) (hr : md h R N F) : ma_PM l g x me_Mod_decode [.ref 184, .int (nI n)] GS h (fun v S' h' => S' = GS ∧ on h h' [184, 189, 190, 191, 192, 193, 194, 195, 196, 197, 198] ∧ ∃ o V, mst h' n (h.1 184 2) R (dcl (bl n) N F R) (dsd (bl n) N F o R) (dfx (bl n) N F R) (ddr (bl n) N F R + sm (16 * bl n) (dq (dcl (bl n) N F R))) ∧ (∀ b, b < bl n → h'.1 190 b = nI (gf_cn 16 (gn (dcl (bl n) N F R) b)) ∧ BR n (dcl (bl n) N F R) (dsd (bl n) N F o R) b (V b) (h'.1 191 b) (h'.1 189)) ∧ v = some (.int (nI (aw V (bl n))))) := by
  refine ma_PM_of (P := pr_Mod_decode) (by decide) rfl (Nat.le_of_ble_eq_true rfl) ?_
  show ma_J l g x none me_Mod_decode pr_Mod_decode _ 0 [some (.ref 184), some (.int (nI n)), none, none, none, none] [] 0 0 GS h
  generalize hQ : (fun (v : Option Value) (S' : ma_S) (h' : ma_H) => S' = GS ∧ on h h' [184, 189, 190, 191, 192, 193, 194, 195, 196, 197, 198] ∧ ∃ o V, mst h' n (h.1 184 2) R (dcl (bl n) N F R) (dsd (bl n) N F o R) (dfx (bl n) N F R) (ddr (bl n) N F R + sm (16 * bl n) (dq (dcl (bl n) N F R))) ∧ (∀ b, b < bl n → h'.1 190 b = nI (gf_cn 16 (gn (dcl (bl n) N F R) b)) ∧ BR n (dcl (bl n) N F R) (dsd (bl n) N F o R) b (V b) (h'.1 191 b) (h'.1 189)) ∧ v = some (.int (nI (aw V (bl n))))) = Q
  have hB : bl n ≤ 4 := by unfold bl; omega
  obtain ⟨o, ho⟩ := ar_any h 195 256
  have hcl : ∀ k, k < 64 → dcl (bl n) N F R k < 1000 := fun k _ => by have := dcl_le (B := bl n) (N := N) (F := F) k R; omega
  have loop : ∀ m r H, r + m = R → on h H [184, 192, 193, 194, 195] → mst H n (h.1 184 2) R (dcl (bl n) N F r) (dsd (bl n) N F o r) (dfx (bl n) N F r) (ddr (bl n) N F r) → dJ l g x Q 39 [some (.ref 184), some (.int (nI n)), some (.int (nI (bl n))), some (.int (nI r)), none, none] [] 0 0 GS H := by
    intro m
    induction m with
    | zero =>
      intro r H hr2 oH hd
      have e : r = R := by omega
      subst e
      have hpH := on_pt oH hp
      refine ma_run0 po_Mod_decode rfl rfl [39, 43, 156] 80 ?_
      simp only [pc_Mod_decode_0, pc_Mod_decode_1, pc_Mod_decode_2, pc_Mod_decode_3, pc_Mod_decode_4, ma_go, ev_A, ev_B, ev_C, ev_D, Nat.reduceAdd, List.mem_cons, List.not_mem_nil, or_false, or_true, true_or, false_or, or_self, Nat.reduceEqDiff, reduceCtorEq, ↓reduceIte, List.length_cons, List.length_nil, Nat.reduceLT, Nat.reduceLeDiff, Nat.le_refl, implies_true, true_and, and_true, Option.toList, List.cons_append, List.nil_append, gs_184, hd.2.2.2.2.2.1]
      refine ⟨fun _ => ?_, fun q => absurd (nI_le (Nat.le_refl _) (by omega)) q⟩
      refine dc_drop hpH hcl (fun H2 o2 d2 => ?_) 64 0 H (by omega) (on_rf _ _) hd
      rw [dq_all hB (fun k hk => dcl_hi hk r)] at d2
      refine ma_run0 po_Mod_decode rfl rfl [180] 80 ?_
      simp only [pc_Mod_decode_0, pc_Mod_decode_1, pc_Mod_decode_2, pc_Mod_decode_3, pc_Mod_decode_4, ma_go, ev_A, ev_B, ev_C, ev_D, Nat.reduceAdd, List.mem_cons, List.not_mem_nil, or_false, or_true, true_or, false_or, or_self, Nat.reduceEqDiff, reduceCtorEq, ↓reduceIte, List.length_cons, List.length_nil, Nat.reduceLT, Nat.reduceLeDiff, Nat.le_refl, implies_true, true_and, and_true, Option.toList, List.cons_append, List.nil_append]
      have o3 := on_tr oH (on_mo (L' := [184, 192, 193, 194, 195]) o2 (by simp))
      refine dc_blocks (on_pt o2 hpH) (mt_on o3 (by decide) (by decide) hm) hn.2 hcl (fun k e c c4 => (dsd_eq c4 o o r (by rw [e]; decide)).2) d2 (fun H3 V o4 d4 hb => ?_) (bl n) 0 (fun _ => 0) H2 (by omega) (on_rf _ _) (fun c hc => by omega)
      rw [← hQ]
      exact ⟨rfl, on_tr (on_mo o3 (by simp)) (on_mo o4 (by simp)), o, V, d4, hb, rfl⟩
    | succ m ih =>
      intro r H hr2 oH hd
      have hpH := on_pt oH hp
      obtain ⟨r1, r2, r3⟩ := md_on oH (by decide) (by decide) hr r (by omega)
      have nx : ∀ H2, on H H2 [184, 192, 193, 194, 195] → mst H2 n (h.1 184 2) R (dcl (bl n) N F (r + 1)) (dsd (bl n) N F o (r + 1)) (dfx (bl n) N F (r + 1)) (ddr (bl n) N F (r + 1)) → dJ l g x Q 150 [some (.ref 184), some (.int (nI n)), some (.int (nI (bl n))), some (.int (nI r)), none, none] [] 0 0 GS H2 := by
        intro H2 o2 d2
        refine ma_run0 po_Mod_decode rfl rfl [39] 80 ?_
        simp only [pc_Mod_decode_0, pc_Mod_decode_1, pc_Mod_decode_2, pc_Mod_decode_3, pc_Mod_decode_4, ma_go, ev_A, ev_B, ev_C, ev_D, Nat.reduceAdd, List.mem_cons, List.not_mem_nil, or_false, or_true, true_or, false_or, or_self, Nat.reduceEqDiff, reduceCtorEq, ↓reduceIte, List.length_cons, List.length_nil, Nat.reduceLT, Nat.reduceLeDiff, Nat.le_refl, implies_true, true_and, and_true, Option.toList, List.cons_append, List.nil_append]
        rw [nx_1]
        exact ih (r + 1) H2 (by omega) (on_tr oH o2) d2
      refine ma_run0 po_Mod_decode rfl rfl [39, 45, 152] 80 ?_
      simp only [pc_Mod_decode_0, pc_Mod_decode_1, pc_Mod_decode_2, pc_Mod_decode_3, pc_Mod_decode_4, ma_go, ev_A, ev_B, ev_C, ev_D, Nat.reduceAdd, List.mem_cons, List.not_mem_nil, or_false, or_true, true_or, false_or, or_self, Nat.reduceEqDiff, reduceCtorEq, ↓reduceIte, List.length_cons, List.length_nil, Nat.reduceLT, Nat.reduceLeDiff, Nat.le_refl, implies_true, true_and, and_true, Option.toList, List.cons_append, List.nil_append, gs_184, hd.2.2.2.2.2.1]
      refine ⟨fun q => absurd q (nI_ge (by omega) (by omega)), fun _ => ?_⟩
      refine dc_one hpH hn.2 (show r < 90 by omega) r1 r2 r3 hd (fun H2 o2 t d2 => nx H2 o2 ?_) (fun H2 p w o2 t d2 => nx H2 o2 ?_)
      · obtain ⟨z1, z2, z3, z4⟩ := d_no t
        rw [z1, z2, z3, z4]
        exact d2
      · obtain ⟨z1, z2, z3, z4⟩ := d_so t
        rw [z1, z2, z3, z4]
        exact d2
  refine ma_run0 po_Mod_decode rfl rfl [10] 60 ?_
  simp only [pc_Mod_decode_0, pc_Mod_decode_1, pc_Mod_decode_2, pc_Mod_decode_3, pc_Mod_decode_4, ma_go, ev_A, ev_B, ev_C, ev_D, Nat.reduceAdd, List.mem_cons, List.not_mem_nil, or_false, or_true, true_or, false_or, or_self, Nat.reduceEqDiff, reduceCtorEq, ↓reduceIte, List.length_cons, List.length_nil, Nat.reduceLT, Nat.reduceLeDiff, Nat.le_refl, implies_true, true_and, and_true, Option.toList, List.cons_append, List.nil_append, gs_184]
  refine ma_callD mt_Mod_in rfl rfl (Nat.le_of_ble_eq_true rfl) (Nat.le_refl _) (Nat.le_refl _) (m_in l g x GS _ (nI n) (nI 1) (nI 160)) ?_
  simp only [pc_Mod_decode_0, pc_Mod_decode_1, pc_Mod_decode_2, pc_Mod_decode_3, pc_Mod_decode_4, ma_go, ev_A, ev_B, ev_C, ev_D, Nat.reduceAdd, List.mem_cons, List.not_mem_nil, or_false, or_true, true_or, false_or, or_self, Nat.reduceEqDiff, reduceCtorEq, ↓reduceIte, List.length_cons, List.length_nil, Nat.reduceLT, Nat.reduceLeDiff, Nat.le_refl, implies_true, true_and, and_true, Option.toList, List.cons_append, List.nil_append]
  rw [show decide (nI 1 ≤ nI n ∧ nI n ≤ nI 160) = true from decide_eq_true ⟨nI_le (by omega) (by omega), nI_le (by omega) (by omega)⟩]
  refine ⟨fun _ => ?_, fun q => absurd q (by decide +kernel)⟩
  have n40 : ¬ nI 40 = 0 := nx_ne0 (by decide) (by decide)
  refine ma_run0 po_Mod_decode rfl rfl [27] 60 ?_
  simp only [pc_Mod_decode_0, pc_Mod_decode_1, pc_Mod_decode_2, pc_Mod_decode_3, pc_Mod_decode_4, ma_go, ev_A, ev_B, ev_C, ev_D, Nat.reduceAdd, List.mem_cons, List.not_mem_nil, or_false, or_true, true_or, false_or, or_self, Nat.reduceEqDiff, reduceCtorEq, ↓reduceIte, List.length_cons, List.length_nil, Nat.reduceLT, Nat.reduceLeDiff, Nat.le_refl, implies_true, true_and, and_true, Option.toList, List.cons_append, List.nil_append, gs_184]
  rw [nI_add, pk_div (by omega) (by omega) (by omega)]
  refine ⟨n40, ?_⟩
  have o1 : on h (ma_uI (ma_uI (ma_uI (ma_uI h 184 0 (nI 0)) 184 7 (nI n)) 184 8 (nI 0)) 184 9 (nI 0)) [184] := on_uI (on_uI (on_uI (on_uI (on_rf h _) _ _ (by simp)) _ _ (by simp)) _ _ (by simp)) _ _ (by simp)
  refine dc_clear (on_pt o1 hp) (fun H o2 a2 => ?_) 64 0 _ (by omega) (on_rf _ _) (fun k hk => by omega)
  have e184 : H.1 184 = (ma_uI (ma_uI (ma_uI (ma_uI h 184 0 (nI 0)) 184 7 (nI n)) 184 8 (nI 0)) 184 9 (nI 0)).1 184 := o2.2 184 (by decide)
  refine ma_run0 po_Mod_decode rfl rfl [39] 60 ?_
  simp only [pc_Mod_decode_0, pc_Mod_decode_1, pc_Mod_decode_2, pc_Mod_decode_3, pc_Mod_decode_4, ma_go, ev_A, ev_B, ev_C, ev_D, Nat.reduceAdd, List.mem_cons, List.not_mem_nil, or_false, or_true, true_or, false_or, or_self, Nat.reduceEqDiff, reduceCtorEq, ↓reduceIte, List.length_cons, List.length_nil, Nat.reduceLT, Nat.reduceLeDiff, Nat.le_refl, implies_true, true_and, and_true, Option.toList, List.cons_append, List.nil_append]
  refine loop R 0 H (by omega) (on_tr (on_mo o1 (by simp)) (on_mo o2 (by simp))) ?_
  unfold mst
  rw [e184]
  refine ⟨?_, ?_, ?_, a2, ar_on o2 (by decide) (ar_on o1 (by decide) ho), ?_, ?_⟩
  · rw [uI_ne (by omega), uI_ne (by omega), uI_same]
  · rw [uI_ne (by omega), uI_same]; rfl
  · rw [uI_same]; rfl
  · rw [uI_ne (by omega), uI_ne (by omega), uI_ne (by omega), uI_ne (by omega)]; exact e4
  · rw [uI_ne (by omega), uI_ne (by omega), uI_ne (by omega), uI_ne (by omega)]
end
