/-! decode of the reference: one read -/
def mst (h : ma_H) (n : Nat) (W : Int32) (R : Nat) (cl sd : Nat → Nat) (fx dr : Nat) : Prop := h.1 184 7 = nI n ∧ h.1 184 8 = nI fx ∧ h.1 184 9 = nI dr ∧ ar h 194 64 cl ∧ ar h 195 256 sd ∧ h.1 184 4 = nI R ∧ h.1 184 2 = W
theorem mst_on {h h' : ma_H} {L : List Nat} (ho : on h h' L) {n R fx dr : Nat} {W : Int32} {cl sd : Nat → Nat} (h1 : 184 ∉ L) (h2 : 194 ∉ L) (h3 : 195 ∉ L) (hd : mst h n W R cl sd fx dr) : mst h' n W R cl sd fx dr := by
  obtain ⟨d1, d2, d3, d4, d5, d6⟩ := hd
  unfold mst
  rw [ho.2 184 h1]
  exact ⟨d1, d2, d3, ar_on ho h2 d4, ar_on ho h3 d5, d6⟩
theorem mst_8 {h : ma_H} {n R fx dr e : Nat} {W v : Int32} {cl sd : Nat → Nat} (hv : v = nI e) (hd : mst h n W R cl sd fx dr) : mst (ma_uI h 184 8 v) n W R cl sd e dr := by
  obtain ⟨d1, d2, d3, d4, d5, d6, d7⟩ := hd
  have o : on h (ma_uI h 184 8 v) [184] := on_uI (on_rf h _) _ _ (by simp)
  exact ⟨by rw [uI_ne (by omega)]; exact d1, by rw [uI_same]; exact hv, by rw [uI_ne (by omega)]; exact d3, ar_on o (by decide) d4, ar_on o (by decide) d5, by rw [uI_ne (by omega)]; exact d6, by rw [uI_ne (by omega)]; exact d7⟩
theorem mst_9 {h : ma_H} {n R fx dr e : Nat} {W v : Int32} {cl sd : Nat → Nat} (hv : v = nI e) (hd : mst h n W R cl sd fx dr) : mst (ma_uI h 184 9 v) n W R cl sd fx e := by
  obtain ⟨d1, d2, d3, d4, d5, d6, d7⟩ := hd
  have o : on h (ma_uI h 184 9 v) [184] := on_uI (on_rf h _) _ _ (by simp)
  exact ⟨by rw [uI_ne (by omega)]; exact d1, by rw [uI_ne (by omega)]; exact d2, by rw [uI_same]; exact hv, ar_on o (by decide) d4, ar_on o (by decide) d5, by rw [uI_ne (by omega)]; exact d6, by rw [uI_ne (by omega)]; exact d7⟩
theorem b4_e {w : Nat → Nat} : ∀ c, c < 4 → (c % 2 = 0 → gp w (1 + c / 2) 11 / 256 = b4 w c) ∧ (¬ c % 2 = 0 → gp w (1 + c / 2) 11 % 256 = b4 w c)
  | 0, _ => ⟨fun _ => rfl, fun h => absurd rfl h⟩
  | 1, _ => ⟨fun h => absurd h (by decide), fun _ => rfl⟩
  | 2, _ => ⟨fun _ => rfl, fun h => absurd rfl h⟩
  | 3, _ => ⟨fun h => absurd h (by decide), fun _ => rfl⟩
  | c + 4, h => absurd h (by omega)
theorem sl_nr {B : Nat} {w : Nat → Nat} {p : Nat} (h : sl B w = some p) : (∀ k, k < 33 → w k ≠ ah w k) ∧ p < 16 * B := by
  unfold sl at h
  split at h
  · rename_i c
    cases h
    obtain ⟨c1, c2, c3, c4⟩ := c
    exact ⟨c1, by omega⟩
  · cases h
abbrev dJ (l : Launch) (g : ma_G) (x : Bool) (Q : ma_P) : ma_K := ma_J l g x none me_Mod_decode pr_Mod_decode Q
section
variable {l : Launch} {g : ma_G} {x : Bool} {Q : ma_P}
set_option maxRecDepth 30000 in
theorem dc_row {h0 : ma_H} (hp : pt_ok h0) {r : Nat} (hr : r < 90) {n B : Int32}
    (hK : ∀ h, on h0 h [193] → (∀ i, i < 60 → h.1 193 i = h0.1 187 (60 * r + i)) → dJ l g x Q 62 [some (.ref 184), some (.int n), some (.int B), some (.int (nI r)), none, none] [] 0 0 GS h) :
    ∀ m k h, k + m = 60 → on h0 h [193] → (∀ i, i < k → h.1 193 i = h0.1 187 (60 * r + i)) → dJ l g x Q 45 [some (.ref 184), some (.int n), some (.int B), some (.int (nI r)), some (.int (nI k)), none] [] 0 0 GS h := by
  intro m
  induction m with
  | zero =>
    intro k h hk ho ha
    have e : k = 60 := by omega
    subst e
    have t := ma_J.less (ls' := [some (.ref 184), some (.int n), some (.int B), some (.int (nI r)), some (.int (nI 60)), none]) (hK h ho ha) ⟨rfl, rfl, rfl, rfl, trivial⟩
    refine ma_run0 po_Mod_decode rfl rfl [45, 62] 80 ?_
    simp only [pc_Mod_decode_0, pc_Mod_decode_1, pc_Mod_decode_2, pc_Mod_decode_3, pc_Mod_decode_4, ma_go, ev_A, ev_B, ev_C, ev_D, Nat.reduceAdd, List.mem_cons, List.not_mem_nil, or_false, or_true, true_or, false_or, or_self, Nat.reduceEqDiff, reduceCtorEq, ↓reduceIte, List.length_cons, List.length_nil, Nat.reduceLT, Nat.reduceLeDiff, Nat.le_refl, implies_true, true_and, and_true, Option.toList, List.cons_append, List.nil_append]
    exact ⟨fun _ => t, fun q => absurd (nI_le (Nat.le_refl _) (by omega)) q⟩
  | succ m ih =>
    intro k h hk ho ha
    have hp' := on_pt ho hp
    have e187 : h.1 187 = h0.1 187 := ho.2 187 (by decide)
    have i2 := ih (k + 1) (ma_uI h 193 k (h.1 187 (60 * r + k))) (by omega) (on_uI ho _ _ (by simp)) (fun i hi => by
      by_cases e : i = k
      · rw [e, uI_same, e187]
      · rw [uI_ne (fun z => e z.2)]; exact ha i (by omega))
    refine ma_run0 po_Mod_decode rfl rfl [45, 62] 80 ?_
    simp only [pc_Mod_decode_0, pc_Mod_decode_1, pc_Mod_decode_2, pc_Mod_decode_3, pc_Mod_decode_4, ma_go, ev_A, ev_B, ev_C, ev_D, Nat.reduceAdd, List.mem_cons, List.not_mem_nil, or_false, or_true, true_or, false_or, or_self, Nat.reduceEqDiff, reduceCtorEq, ↓reduceIte, List.length_cons, List.length_nil, Nat.reduceLT, Nat.reduceLeDiff, Nat.le_refl, implies_true, true_and, and_true, Option.toList, List.cons_append, List.nil_append, gs_184, gs_187, pt_Mod hp']
    simp only [pk_mul, nI_add]
    rw [nI_clamp (n := 60 * r + k) (by omega), nI_clamp (n := k) (by omega)]
    exact ⟨fun q => absurd q (nI_ge (by omega) (by omega)), fun _ => ⟨ma_in_of gs_187 (by omega) (by decide), ma_in_of gs_193 (by omega) (by decide), i2⟩⟩
set_option maxRecDepth 30000 in
theorem dc_cell {h0 : ma_H} (hp : pt_ok h0) {p : Nat} (hp64 : p < 64) {w : Nat → Nat} (hw : wf w) (hnr : ∀ k, k < 33 → w k ≠ ah w k) (h1 : ar h0 192 33 w) {n B r : Int32}
    (hK : ∀ h, on h0 h [195] → (∀ j, h.1 195 j = if j / 4 = p then nI (b4 w (j % 4)) else h0.1 195 j) → dJ l g x Q 150 [some (.ref 184), some (.int n), some (.int B), some (.int r), none, none] [] 0 0 GS h) :
    ∀ m c h, c + m = 4 → on h0 h [195] → (∀ j, h.1 195 j = if j / 4 = p ∧ j % 4 < c then nI (b4 w (j % 4)) else h0.1 195 j) → dJ l g x Q 114 [some (.ref 184), some (.int n), some (.int B), some (.int r), some (.int (nI p)), some (.int (nI c))] [] 0 0 GS h := by
  intro m
  induction m with
  | zero =>
    intro c h hc ho h8
    have e : c = 4 := by omega
    subst e
    have t := ma_J.less (ls' := [some (.ref 184), some (.int n), some (.int B), some (.int r), some (.int (nI p)), some (.int (nI 4))]) (hK h ho (fun j => by
      rw [h8 j]
      by_cases e : j / 4 = p
      · rw [if_pos ⟨e, by omega⟩, if_pos e]
      · rw [if_neg (fun z => e z.1), if_neg e])) ⟨rfl, rfl, rfl, rfl, trivial⟩
    refine ma_run0 po_Mod_decode rfl rfl [114, 117, 150] 80 ?_
    simp only [pc_Mod_decode_0, pc_Mod_decode_1, pc_Mod_decode_2, pc_Mod_decode_3, pc_Mod_decode_4, ma_go, ev_A, ev_B, ev_C, ev_D, Nat.reduceAdd, List.mem_cons, List.not_mem_nil, or_false, or_true, true_or, false_or, or_self, Nat.reduceEqDiff, reduceCtorEq, ↓reduceIte, List.length_cons, List.length_nil, Nat.reduceLT, Nat.reduceLeDiff, Nat.le_refl, implies_true, true_and, and_true, Option.toList, List.cons_append, List.nil_append]
    exact ⟨fun _ => t, fun q => absurd (nI_le (Nat.le_refl _) (by omega)) q⟩
  | succ m ih =>
    intro c h hc ho h8
    have hp' := on_pt ho hp
    have n2 : ¬ nI 2 = 0 := nx_ne0 (by decide) (by decide)
    have n256 : ¬ nI 256 = 0 := nx_ne0 (by decide) (by decide)
    have gb := gp_b hw (show 1 + c / 2 < 3 by omega) (Nat.le_refl 11)
    obtain ⟨be, bo⟩ := b4_e (w := w) c (by omega)
    have go : ∀ v, v = b4 w c → dJ l g x Q 114 [some (.ref 184), some (.int n), some (.int B), some (.int r), some (.int (nI p)), some (.int (nI (c + 1)))] [] 0 0 GS (ma_uI h 195 (4 * p + c) (nI v)) := fun v hv => by
      refine ih (c + 1) _ (by omega) (on_uI ho _ _ (by simp)) (fun j => ?_)
      by_cases e : j = 4 * p + c
      · rw [e, uI_same, if_pos (by omega), show (4 * p + c) % 4 = c by omega, hv]
      · rw [uI_ne (fun z => e z.2), h8 j]
        by_cases q : j / 4 = p ∧ j % 4 < c
        · rw [if_pos q, if_pos (by omega)]
        · rw [if_neg q, if_neg (by omega)]
    have t5 := ma_in_of (i := 4 * p + c) gs_195 (by omega) (by decide)
    refine ma_run0 po_Mod_decode rfl rfl [114, 150] 80 ?_
    simp only [pc_Mod_decode_0, pc_Mod_decode_1, pc_Mod_decode_2, pc_Mod_decode_3, pc_Mod_decode_4, ma_go, ev_A, ev_B, ev_C, ev_D, Nat.reduceAdd, List.mem_cons, List.not_mem_nil, or_false, or_true, true_or, false_or, or_self, Nat.reduceEqDiff, reduceCtorEq, ↓reduceIte, List.length_cons, List.length_nil, Nat.reduceLT, Nat.reduceLeDiff, Nat.le_refl, implies_true, true_and, and_true, Option.toList, List.cons_append, List.nil_append, gs_184, pt_Mod hp']
    rw [ma_irem_nI (by omega) (by omega) (by omega), pk_div (by omega) (by omega) (by omega)]
    simp only [pk_mul, nI_add]
    refine ⟨fun q => absurd q (nI_ge (by omega) (by omega)), fun _ => ⟨n2, fun q => ⟨n2, ?_⟩, fun q => ⟨n2, ?_⟩⟩⟩
    · refine ma_callD mt_Mod_group rfl rfl (Nat.le_of_ble_eq_true rfl) (Nat.le_refl _) (Nat.le_refl _) (m_group l g x hp' hw (ar_on ho (by decide) h1) hnr (G := 1 + c / 2) (by omega)) ?_
      simp only [pc_Mod_decode_0, pc_Mod_decode_1, pc_Mod_decode_2, pc_Mod_decode_3, pc_Mod_decode_4, ma_go, ev_A, ev_B, ev_C, ev_D, Nat.reduceAdd, List.mem_cons, List.not_mem_nil, or_false, or_true, true_or, false_or, or_self, Nat.reduceEqDiff, reduceCtorEq, ↓reduceIte, List.length_cons, List.length_nil, Nat.reduceLT, Nat.reduceLeDiff, Nat.le_refl, implies_true, true_and, and_true, Option.toList, List.cons_append, List.nil_append]
      rw [ma_irem_nI (by omega) (by omega) (by omega), nI_clamp (n := 4 * p + c) (by omega), nx_1]
      exact ⟨n256, t5, go _ (bo (fun z => q (by rw [z])))⟩
    · refine ma_callD mt_Mod_group rfl rfl (Nat.le_of_ble_eq_true rfl) (Nat.le_refl _) (Nat.le_refl _) (m_group l g x hp' hw (ar_on ho (by decide) h1) hnr (G := 1 + c / 2) (by omega)) ?_
      simp only [pc_Mod_decode_0, pc_Mod_decode_1, pc_Mod_decode_2, pc_Mod_decode_3, pc_Mod_decode_4, ma_go, ev_A, ev_B, ev_C, ev_D, Nat.reduceAdd, List.mem_cons, List.not_mem_nil, or_false, or_true, true_or, false_or, or_self, Nat.reduceEqDiff, reduceCtorEq, ↓reduceIte, List.length_cons, List.length_nil, Nat.reduceLT, Nat.reduceLeDiff, Nat.le_refl, implies_true, true_and, and_true, Option.toList, List.cons_append, List.nil_append]
      rw [pk_div (by omega) (by omega) (by omega), nI_clamp (n := 4 * p + c) (by omega), nx_1]
      exact ⟨n256, t5, go _ (be ((nI_eq (by omega) (by omega)).mp q))⟩
set_option maxRecDepth 30000 in
theorem dc_yes {h0 : ma_H} (hp : pt_ok h0) {n R r fx dr p K : Nat} {W B : Int32} {cl sd w : Nat → Nat} (hr : r < 90) (hK60 : K ≤ 60) (hs : h0.1 188 r = nI K) (hd : mst h0 n W R cl sd fx dr) (hp64 : p < 64) (hw : wf w) (hnr : ∀ k, k < 33 → w k ≠ ah w k) (h1 : ar h0 192 33 w)
    (hK : ∀ h, on h0 h [184, 194, 195] → mst h n W R (up cl p (cl p + 1)) (s4 sd w p) (fx + (if K = 45 then 0 else 1)) dr → dJ l g x Q 150 [some (.ref 184), some (.int (nI n)), some (.int B), some (.int (nI r)), none, none] [] 0 0 GS h) :
    dJ l g x Q 83 [some (.ref 184), some (.int (nI n)), some (.int B), some (.int (nI r)), some (.int (nI p)), none] [] 0 0 GS h0 := by
  have aft : ∀ H, on h0 H [184] → mst H n W R cl sd (fx + (if K = 45 then 0 else 1)) dr → dJ l g x Q 104 [some (.ref 184), some (.int (nI n)), some (.int B), some (.int (nI r)), some (.int (nI p)), none] [] 0 0 GS H := by
    intro H oH dH
    have hpH := on_pt oH hp
    have v1 := dH.2.2.2.1 p hp64
    have t1 := ma_in_of (i := p) gs_194 hp64 (by decide)
    refine ma_run0 po_Mod_decode rfl rfl [114] 80 ?_
    simp only [pc_Mod_decode_0, pc_Mod_decode_1, pc_Mod_decode_2, pc_Mod_decode_3, pc_Mod_decode_4, ma_go, ev_A, ev_B, ev_C, ev_D, Nat.reduceAdd, List.mem_cons, List.not_mem_nil, or_false, or_true, true_or, false_or, or_self, Nat.reduceEqDiff, reduceCtorEq, ↓reduceIte, List.length_cons, List.length_nil, Nat.reduceLT, Nat.reduceLeDiff, Nat.le_refl, implies_true, true_and, and_true, Option.toList, List.cons_append, List.nil_append, gs_184, pt_Mod hpH]
    rw [nI_clamp (n := p) (by omega), v1, nx_1]
    have o2 : on H (ma_uI H 194 p (nI (cl p + 1))) [194] := on_uI (on_rf H _) _ _ (by simp)
    refine ⟨t1, t1, dc_cell (on_pt o2 hpH) hp64 hw hnr (ar_on o2 (by decide) (ar_on oH (by decide) h1)) (fun h2 o3 e3 => hK h2 (on_tr (on_mo oH (by simp)) (on_tr (on_mo o2 (by simp)) (on_mo o3 (by simp)))) ?_) 4 0 _ (by omega) (on_rf _ _) (fun j => by rw [if_neg (by omega)])⟩
    obtain ⟨d1, d2, d3, d4, d5, d6, d7⟩ := dH
    have e184 : h2.1 184 = H.1 184 := by rw [o3.2 184 (by decide), o2.2 184 (by decide)]
    unfold mst
    rw [e184]
    refine ⟨d1, d2, d3, fun k hk => ?_, fun k hk => ?_, d6, d7⟩
    · rw [o3.2 194 (by decide)]
      unfold up
      by_cases e : k = p
      · rw [if_pos e, e, uI_same]
      · rw [if_neg e, uI_ne (fun z => e z.2)]; exact d4 k hk
    · rw [e3 k, o2.2 195 (by decide)]
      unfold s4
      by_cases e : k / 4 = p
      · rw [if_pos e, if_pos e]
      · rw [if_neg e, if_neg e]; exact d5 k hk
  refine ma_run0 po_Mod_decode rfl rfl [85, 92] 80 ?_
  simp only [pc_Mod_decode_0, pc_Mod_decode_1, pc_Mod_decode_2, pc_Mod_decode_3, pc_Mod_decode_4, ma_go, ev_A, ev_B, ev_C, ev_D, Nat.reduceAdd, List.mem_cons, List.not_mem_nil, or_false, or_true, true_or, false_or, or_self, Nat.reduceEqDiff, reduceCtorEq, ↓reduceIte, List.length_cons, List.length_nil, Nat.reduceLT, Nat.reduceLeDiff, Nat.le_refl, implies_true, true_and, and_true, Option.toList, List.cons_append, List.nil_append]
  refine ⟨fun _ => ?_, fun q => absurd (nI_le (Nat.zero_le _) (by omega)) q⟩
  refine ma_run0 po_Mod_decode rfl rfl [104] 80 ?_
  simp only [pc_Mod_decode_0, pc_Mod_decode_1, pc_Mod_decode_2, pc_Mod_decode_3, pc_Mod_decode_4, ma_go, ev_A, ev_B, ev_C, ev_D, Nat.reduceAdd, List.mem_cons, List.not_mem_nil, or_false, or_true, true_or, false_or, or_self, Nat.reduceEqDiff, reduceCtorEq, ↓reduceIte, List.length_cons, List.length_nil, Nat.reduceLT, Nat.reduceLeDiff, Nat.le_refl, implies_true, true_and, and_true, Option.toList, List.cons_append, List.nil_append, gs_184, pt_Mod hp, hd.2.1]
  rw [nI_clamp (n := r) (by omega), hs, nx_1]
  refine ⟨ma_in_of gs_188 hr (by decide), fun q => ?_, fun q => ?_⟩
  · have e := (nI_eq (by omega) (by omega)).mp q
    refine aft h0 (on_rf _ _) ?_
    rw [if_pos e]
    exact hd
  · refine aft _ (on_uI (on_rf h0 _) _ _ (by simp)) (mst_8 ?_ hd)
    rw [if_neg (fun z => q (by rw [z]))]
set_option maxRecDepth 30000 in
theorem dc_no {h0 : ma_H} (hp : pt_ok h0) {n R r fx dr : Nat} {W B : Int32} {cl sd : Nat → Nat} (hd : mst h0 n W R cl sd fx dr)
    (hK : ∀ h, on h0 h [184] → mst h n W R cl sd fx (dr + 1) → dJ l g x Q 150 [some (.ref 184), some (.int (nI n)), some (.int B), some (.int (nI r)), none, none] [] 0 0 GS h) :
    dJ l g x Q 83 [some (.ref 184), some (.int (nI n)), some (.int B), some (.int (nI r)), some (.int (-1)), none] [] 0 0 GS h0 := by
  refine ma_run0 po_Mod_decode rfl rfl [92, 150] 80 ?_
  simp only [pc_Mod_decode_0, pc_Mod_decode_1, pc_Mod_decode_2, pc_Mod_decode_3, pc_Mod_decode_4, ma_go, ev_A, ev_B, ev_C, ev_D, Nat.reduceAdd, List.mem_cons, List.not_mem_nil, or_false, or_true, true_or, false_or, or_self, Nat.reduceEqDiff, reduceCtorEq, ↓reduceIte, List.length_cons, List.length_nil, Nat.reduceLT, Nat.reduceLeDiff, Nat.le_refl, implies_true, true_and, and_true, Option.toList, List.cons_append, List.nil_append, gs_184, hd.2.2.1]
  rw [nx_1]
  exact ⟨fun q => absurd q (by decide +kernel), fun _ => ma_J.less (hK _ (on_uI (on_rf h0 _) _ _ (by simp)) (mst_9 rfl hd)) ⟨rfl, rfl, rfl, rfl, trivial⟩⟩
/-- the read r, taken or dropped -/
theorem dc_one {h0 : ma_H} (hp : pt_ok h0) {n R r fx dr K : Nat} {W : Int32} {cl sd f : Nat → Nat} (hn : n ≤ 160) (hr : r < 90) (hK60 : K ≤ 60) (hs : h0.1 188 r = nI K) (hf : ∀ i, i < K → f i < 4 ∧ h0.1 187 (60 * r + i) = nI (f i)) (hd : mst h0 n W R cl sd fx dr)
    (hN : ∀ h, on h0 h [184, 192, 193, 194, 195] → tk (bl n) f K = none → mst h n W R cl sd fx (dr + 1) → dJ l g x Q 150 [some (.ref 184), some (.int (nI n)), some (.int (nI (bl n))), some (.int (nI r)), none, none] [] 0 0 GS h)
    (hY : ∀ h p w, on h0 h [184, 192, 193, 194, 195] → tk (bl n) f K = some (p, w) → mst h n W R (up cl p (cl p + 1)) (s4 sd w p) (fx + (if K = 45 then 0 else 1)) dr → dJ l g x Q 150 [some (.ref 184), some (.int (nI n)), some (.int (nI (bl n))), some (.int (nI r)), none, none] [] 0 0 GS h) :
    dJ l g x Q 45 [some (.ref 184), some (.int (nI n)), some (.int (nI (bl n))), some (.int (nI r)), some (.int (nI 0)), none] [] 0 0 GS h0 := by
  have hB : bl n ≤ 4 := by unfold bl; omega
  refine dc_row hp hr (fun h2 o2 e2 => ?_) 60 0 h0 (by omega) (on_rf _ _) (fun i hi => by omega)
  have hp2 := on_pt o2 hp
  have d2 := mst_on o2 (by decide) (by decide) (by decide) hd
  have s2 : h2.1 188 r = nI K := by rw [o2.2 188 (by decide)]; exact hs
  have t8 := ma_in_of (i := r) gs_188 hr (by decide)
  have no2 : tk (bl n) f K = none → ∀ H, on h2 H [192] → dJ l g x Q 83 [some (.ref 184), some (.int (nI n)), some (.int (nI (bl n))), some (.int (nI r)), some (.int (-1)), none] [] 0 0 GS H := fun hk H oH => dc_no (on_pt oH hp2) (mst_on oH (by decide) (by decide) (by decide) d2) (fun h3 o3 d3 => hN h3 (on_tr (on_mo o2 (by simp)) (on_tr (on_mo oH (by simp)) (on_mo o3 (by simp)))) hk d3)
  set_option maxRecDepth 30000 in
  refine ma_run0 po_Mod_decode rfl rfl [83] 80 ?_
  simp only [pc_Mod_decode_0, pc_Mod_decode_1, pc_Mod_decode_2, pc_Mod_decode_3, pc_Mod_decode_4, ma_go, ev_A, ev_B, ev_C, ev_D, Nat.reduceAdd, List.mem_cons, List.not_mem_nil, or_false, or_true, true_or, false_or, or_self, Nat.reduceEqDiff, reduceCtorEq, ↓reduceIte, List.length_cons, List.length_nil, Nat.reduceLT, Nat.reduceLeDiff, Nat.le_refl, implies_true, true_and, and_true, Option.toList, List.cons_append, List.nil_append, gs_184, pt_Mod hp2]
  rw [nI_clamp (n := r) (by omega), s2]
  refine ⟨t8, ?_⟩
  refine ma_callD mt_Mod_in rfl rfl (Nat.le_of_ble_eq_true rfl) (Nat.le_refl _) (Nat.le_refl _) (m_in l g x GS _ (nI K) (nI 44) (nI 46)) ?_
  simp only [pc_Mod_decode_0, pc_Mod_decode_1, pc_Mod_decode_2, pc_Mod_decode_3, pc_Mod_decode_4, ma_go, ev_A, ev_B, ev_C, ev_D, Nat.reduceAdd, List.mem_cons, List.not_mem_nil, or_false, or_true, true_or, false_or, or_self, Nat.reduceEqDiff, reduceCtorEq, ↓reduceIte, List.length_cons, List.length_nil, Nat.reduceLT, Nat.reduceLeDiff, Nat.le_refl, implies_true, true_and, and_true, Option.toList, List.cons_append, List.nil_append, gs_184, pt_Mod hp2]
  by_cases q : 44 ≤ K ∧ K ≤ 46
  · rw [show decide (nI 44 ≤ nI K ∧ nI K ≤ nI 46) = true from decide_eq_true ⟨nI_le q.1 (by omega), nI_le q.2 (by omega)⟩]
    refine ⟨fun z => absurd z (by decide +kernel), fun _ => ?_⟩
    rw [nI_clamp (n := r) (by omega), s2]
    refine ⟨t8, ?_⟩
    refine ma_callP mt_Mod_isFound rfl rfl (Nat.le_of_ble_eq_true rfl) (Nat.le_refl _) (Nat.le_refl _) (m_isFound l g x hp2 q (fun k hk => (hf k hk).1) (fun k hk => by rw [e2 k (by omega)]; exact (hf k hk).2)) ?_
    intro v S' h3 hpost
    obtain ⟨rfl, o3, hh⟩ := hpost
    have hp3 := on_pt o3 hp2
    rcases hh with ⟨rfl, w, w1, w2, w3⟩ | ⟨rfl, w2⟩
    · simp only [pc_Mod_decode_0, pc_Mod_decode_1, pc_Mod_decode_2, pc_Mod_decode_3, pc_Mod_decode_4, ma_go, ev_A, ev_B, ev_C, ev_D, Nat.reduceAdd, List.mem_cons, List.not_mem_nil, or_false, or_true, true_or, false_or, or_self, Nat.reduceEqDiff, reduceCtorEq, ↓reduceIte, List.length_cons, List.length_nil, Nat.reduceLT, Nat.reduceLeDiff, Nat.le_refl, implies_true, true_and, and_true, Option.toList, List.cons_append, List.nil_append, gs_184]
      refine ⟨fun z => absurd z n10, fun _ => ?_⟩
      refine ma_callD mt_Mod_slot rfl rfl (Nat.le_of_ble_eq_true rfl) (Nat.le_refl _) (Nat.le_refl _) (m_slot l g x hp3 w1 w3 hB) ?_
      simp only [pc_Mod_decode_0, pc_Mod_decode_1, pc_Mod_decode_2, pc_Mod_decode_3, pc_Mod_decode_4, ma_go, ev_A, ev_B, ev_C, ev_D, Nat.reduceAdd, List.mem_cons, List.not_mem_nil, or_false, or_true, true_or, false_or, or_self, Nat.reduceEqDiff, reduceCtorEq, ↓reduceIte, List.length_cons, List.length_nil, Nat.reduceLT, Nat.reduceLeDiff, Nat.le_refl, implies_true, true_and, and_true, Option.toList, List.cons_append, List.nil_append]
      cases e : sl (bl n) w with
      | none =>
        refine no2 ?_ h3 o3
        unfold tk wr
        rw [if_pos q, w2]
        dsimp only
        rw [e]
      | some p =>
        obtain ⟨c1, c2⟩ := sl_nr e
        refine dc_yes hp3 hr hK60 (by rw [o3.2 188 (by decide)]; exact s2) (mst_on o3 (by decide) (by decide) (by decide) d2) (show p < 64 by omega) w1 c1 w3 (fun h4 o4 d4 => hY h4 p w (on_tr (on_mo o2 (by simp)) (on_tr (on_mo o3 (by simp)) (on_mo o4 (by simp)))) ?_ d4)
        unfold tk wr
        rw [if_pos q, w2]
        dsimp only
        rw [e]
    · simp only [pc_Mod_decode_0, pc_Mod_decode_1, pc_Mod_decode_2, pc_Mod_decode_3, pc_Mod_decode_4, ma_go, ev_A, ev_B, ev_C, ev_D, Nat.reduceAdd, List.mem_cons, List.not_mem_nil, or_false, or_true, true_or, false_or, or_self, Nat.reduceEqDiff, reduceCtorEq, ↓reduceIte, List.length_cons, List.length_nil, Nat.reduceLT, Nat.reduceLeDiff, Nat.le_refl, implies_true, true_and, and_true, Option.toList, List.cons_append, List.nil_append]
      refine ⟨fun _ => no2 ?_ h3 o3, fun z => absurd trivial z⟩
      unfold tk wr
      rw [if_pos q, w2]
  · rw [show decide (nI 44 ≤ nI K ∧ nI K ≤ nI 46) = false from decide_eq_false (fun z => q ⟨(nI_leI (by omega) (by omega)).mp z.1, (nI_leI (by omega) (by omega)).mp z.2⟩)]
    refine ⟨fun _ => no2 ?_ h2 (on_rf _ _), fun z => absurd rfl z⟩
    unfold tk wr
    rw [if_neg q]
end
