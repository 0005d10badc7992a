/-! the reference's isMended: the loops -/
abbrev nJ (l : Launch) (g : ma_G) (x : Bool) (Q : ma_P) : ma_K := ma_J l g x none me_Mod_isMended pr_Mod_isMended Q
theorem zb_tb (z s : Nat) : zb (tb z s) = z / 2 ^ s % 2 := by
  unfold zb tb
  by_cases h : z / 2 ^ s % 2 = 1
  · rw [h]; rfl
  · rw [if_neg (by simpa using h)]
    omega
theorem ar_pu {h : ma_H} {a s : Nat} {f : Nat → Nat} {v : Int32} (hv : v = nI (f s)) (ha : ar h a s f) : ar (ma_uI h a s v) a (s + 1) f := fun k hk => by
  by_cases e : k = s
  · rw [e, uI_same, hv]
  · rw [uI_ne (fun z => e z.2)]
    exact ha k (by omega)
theorem cw_p {b c s k : Nat} {w : Nat → Nat} {o : Nat → Int32} {v : Int32} (hc : c < 4) (hs : s < 10) (hv : v = cw b c s w o k) : (if k = 40 * b + 4 * s + c then nI (w s) else v) = cw b c (s + 1) w o k := by
  unfold cw at hv ⊢
  by_cases e : k = 40 * b + 4 * s + c
  · rw [if_pos e, if_pos (by omega), show (k - 40 * b) / 4 = s by omega]
  · rw [if_neg e, hv]
    by_cases q : 40 * b ≤ k ∧ k < 40 * b + 40 ∧ (k - 40 * b) % 4 = c ∧ (k - 40 * b) / 4 < s
    · rw [if_pos q, if_pos (by omega)]
    · rw [if_neg q, if_neg (by omega)]
theorem n10 : ¬ nI 1 = nI 0 := by decide +kernel
section
variable {l : Launch} {g : ma_G} {x : Bool} {Q : ma_P} {b n : Nat} {cl sd : Nat → Nat}
set_option maxRecDepth 30000 in
theorem im_gone {h : ma_H} (hp : pt_ok h) (hb : b < 4) (hcl : ∀ k, k < 64 → cl k < 1000) (h1 : ar h 194 64 cl)
    (hK : nJ l g x Q 25 [some (.ref 184), some (.int (nI b)), some (.int (nI (gf_cn 16 (gn cl b)))), none, none, none, none, none] [] 0 0 GS h) :
    ∀ m s, s + m = 16 → nJ l g x Q 4 [some (.ref 184), some (.int (nI b)), some (.int (nI (gf_cn s (gn cl b)))), some (.int (nI s)), none, none, none, none] [] 0 0 GS h := by
  intro m
  induction m with
  | zero =>
    intro s hs
    have e : s = 16 := by omega
    subst e
    have t := ma_J.less (ls' := [some (.ref 184), some (.int (nI b)), some (.int (nI (gf_cn 16 (gn cl b)))), some (.int (nI 16)), none, none, none, none]) hK ⟨rfl, rfl, rfl, trivial⟩
    refine ma_run0 po_Mod_isMended rfl rfl [4, 25] 80 ?_
    simp only [pc_Mod_isMended_0, pc_Mod_isMended_1, pc_Mod_isMended_2, pc_Mod_isMended_3, pc_Mod_isMended_4, pc_Mod_isMended_5, ma_go, ev_A, ev_B, ev_C, ev_D, Nat.reduceAdd, List.mem_cons, List.not_mem_nil, or_false, or_true, true_or, false_or, or_self, Nat.reduceEqDiff, reduceCtorEq, ↓reduceIte, List.length_cons, List.length_nil, Nat.reduceLT, Nat.reduceLeDiff, Nat.le_refl, implies_true, true_and, and_true, Option.toList, List.cons_append, List.nil_append]
    exact ⟨fun _ => t, fun q => absurd (nI_le (Nat.le_refl _) (by omega)) q⟩
  | succ m ih =>
    intro s hs
    have hv := h1 (16 * b + s) (by omega)
    have hc := hcl (16 * b + s) (by omega)
    have eg : gf_cn (s + 1) (gn cl b) = gf_cn s (gn cl b) + zb (gn cl b s) := rfl
    have i2 := ih (s + 1) (by omega)
    rw [eg] at i2
    refine ma_run0 po_Mod_isMended rfl rfl [4, 25] 80 ?_
    simp only [pc_Mod_isMended_0, pc_Mod_isMended_1, pc_Mod_isMended_2, pc_Mod_isMended_3, pc_Mod_isMended_4, pc_Mod_isMended_5, ma_go, ev_A, ev_B, ev_C, ev_D, Nat.reduceAdd, List.mem_cons, List.not_mem_nil, or_false, or_true, true_or, false_or, or_self, Nat.reduceEqDiff, reduceCtorEq, ↓reduceIte, List.length_cons, List.length_nil, Nat.reduceLT, Nat.reduceLeDiff, Nat.le_refl, implies_true, true_and, and_true, Option.toList, List.cons_append, List.nil_append, gs_184, pt_Mod hp]
    simp only [pk_mul, nI_add]
    rw [nI_clamp (n := 16 * b + s) (by omega), hv]
    refine ⟨fun q => absurd q (nI_ge (by omega) (by omega)), fun _ => ⟨ma_in_of gs_194 (by omega) (by decide), fun q => ?_, fun q => ?_⟩⟩
    · rw [show gn cl b s = true by unfold gn; rw [show (cl (16 * b + s) == 1) = false from beq_eq_false_iff_ne.mpr (fun z => q (by rw [z]))]; rfl] at i2
      exact i2
    · rw [show gn cl b s = false by unfold gn; rw [(nI_eq (by omega) (by omega)).mp q]; rfl] at i2
      exact i2
set_option maxRecDepth 30000 in
theorem im_col {h0 : ma_H} (hp : pt_ok h0) (hb : b < 4) {c : Nat} (hc : c < 4) (hcl : ∀ k, k < 64 → cl k < 1000) (h1 : ar h0 194 64 cl) (h2 : ar h0 195 256 sd) {G O : Int32}
    (hK : ∀ h, on h0 h [196] → ar h 196 16 (co cl sd b c) → nJ l g x Q 76 [some (.ref 184), some (.int (nI b)), some (.int G), some (.int O), some (.int (nI 1)), some (.int (nI c)), none, none] [] 0 0 GS h) :
    ∀ m s h, s + m = 16 → on h0 h [196] → ar h 196 s (co cl sd b c) → nJ l g x Q 43 [some (.ref 184), some (.int (nI b)), some (.int G), some (.int O), some (.int (nI 1)), some (.int (nI c)), some (.int (nI s)), none] [] 0 0 GS h := by
  intro m
  induction m with
  | zero =>
    intro s h hs ho ha
    have e : s = 16 := by omega
    subst e
    have t := ma_J.less (ls' := [some (.ref 184), some (.int (nI b)), some (.int G), some (.int O), some (.int (nI 1)), some (.int (nI c)), some (.int (nI 16)), none]) (hK h ho ha) ⟨rfl, rfl, rfl, rfl, rfl, rfl, trivial⟩
    refine ma_run0 po_Mod_isMended rfl rfl [43, 76] 80 ?_
    simp only [pc_Mod_isMended_0, pc_Mod_isMended_1, pc_Mod_isMended_2, pc_Mod_isMended_3, pc_Mod_isMended_4, pc_Mod_isMended_5, ma_go, ev_A, ev_B, ev_C, ev_D, Nat.reduceAdd, List.mem_cons, List.not_mem_nil, or_false, or_true, true_or, false_or, or_self, Nat.reduceEqDiff, reduceCtorEq, ↓reduceIte, List.length_cons, List.length_nil, Nat.reduceLT, Nat.reduceLeDiff, Nat.le_refl, implies_true, true_and, and_true, Option.toList, List.cons_append, List.nil_append]
    exact ⟨fun _ => t, fun q => absurd (nI_le (Nat.le_refl _) (by omega)) q⟩
  | succ m ih =>
    intro s h hs ho ha
    have hp' := on_pt ho hp
    have hv : h.1 194 (16 * b + s) = nI (cl (16 * b + s)) := by rw [ho.2 194 (by decide)]; exact h1 _ (by omega)
    have hv2 : h.1 195 (64 * b + 4 * s + c) = nI (sd (4 * (16 * b + s) + c)) := by rw [ho.2 195 (by decide), show 4 * (16 * b + s) + c = 64 * b + 4 * s + c by omega]; exact h2 _ (by omega)
    have hc' := hcl (16 * b + s) (by omega)
    have t1 := ma_in_of (i := 16 * b + s) gs_194 (by omega) (by decide)
    have t2 := ma_in_of (i := 64 * b + 4 * s + c) gs_195 (by omega) (by decide)
    have t3 := ma_in_of (i := s) gs_196 (by omega) (by decide)
    have go : ∀ v, v = nI (co cl sd b c s) → nJ l g x Q 43 [some (.ref 184), some (.int (nI b)), some (.int G), some (.int O), some (.int (nI 1)), some (.int (nI c)), some (.int (nI (s + 1))), none] [] 0 0 GS (ma_uI h 196 s v) := fun v hv => ih (s + 1) _ (by omega) (on_uI ho _ _ (by simp)) (ar_pu hv ha)
    refine ma_run0 po_Mod_isMended rfl rfl [43, 76] 80 ?_
    simp only [pc_Mod_isMended_0, pc_Mod_isMended_1, pc_Mod_isMended_2, pc_Mod_isMended_3, pc_Mod_isMended_4, pc_Mod_isMended_5, ma_go, ev_A, ev_B, ev_C, ev_D, Nat.reduceAdd, List.mem_cons, List.not_mem_nil, or_false, or_true, true_or, false_or, or_self, Nat.reduceEqDiff, reduceCtorEq, ↓reduceIte, List.length_cons, List.length_nil, Nat.reduceLT, Nat.reduceLeDiff, Nat.le_refl, implies_true, true_and, and_true, Option.toList, List.cons_append, List.nil_append, gs_184, pt_Mod hp']
    simp only [pk_mul, nI_add]
    rw [nI_clamp (n := 16 * b + s) (by omega), hv, nI_clamp (n := 64 * b + 4 * s + c) (by omega), hv2, nI_clamp (n := s) (by omega)]
    refine ⟨fun q => absurd q (nI_ge (by omega) (by omega)), fun _ => ⟨t1, fun q => ⟨t3, go _ ?_⟩, fun q => ⟨t2, t3, go _ ?_⟩⟩⟩
    · unfold co
      rw [if_neg (fun z => q (by rw [z]))]
    · unfold co
      rw [if_pos ((nI_eq (by omega) (by omega)).mp q)]
set_option maxRecDepth 30000 in
theorem im_put {h0 : ma_H} (hp : pt_ok h0) (hb : b < 4) {c : Nat} (hc : c < 4) (hn : n ≤ 160) (h7 : h0.1 184 7 = nI n) (hcl : ∀ k, k < 64 → cl k < 1000) (h1 : ar h0 194 64 cl) (h2 : ar h0 195 256 sd) {w : Nat → Nat} (hw : ∀ s, s < 16 → w s < 256) (hsd : ∀ s, s < 16 → cl (16 * b + s) = 1 → sd (4 * (16 * b + s) + c) < 256) (ha : ar h0 196 16 w) {R : Nat → Bool} {G : Int32}
    (hK : ∀ h, on h0 h [189] → (∀ k, k < n → h.1 189 k = cw b c 16 w (h0.1 189) k) → nJ l g x Q 148 [some (.ref 184), some (.int (nI b)), some (.int G), some (.int (nI (bz (tR R (ht cl sd w b c) 16) 16))), some (.int (nI 1)), some (.int (nI c)), none, none] [] 0 0 GS h) :
    ∀ m s h, s + m = 16 → on h0 h [189] → (∀ k, k < n → h.1 189 k = cw b c s w (h0.1 189) k) → nJ l g x Q 83 [some (.ref 184), some (.int (nI b)), some (.int G), some (.int (nI (bz (tR R (ht cl sd w b c) s) 16))), some (.int (nI 1)), some (.int (nI c)), some (.int (nI s)), none] [] 0 0 GS h := by
  intro m
  induction m with
  | zero =>
    intro s h hs ho h8
    have e : s = 16 := by omega
    subst e
    have t := ma_J.less (ls' := [some (.ref 184), some (.int (nI b)), some (.int G), some (.int (nI (bz (tR R (ht cl sd w b c) 16) 16))), some (.int (nI 1)), some (.int (nI c)), some (.int (nI 16)), none]) (hK h ho h8) ⟨rfl, rfl, rfl, rfl, rfl, rfl, trivial⟩
    refine ma_run0 po_Mod_isMended rfl rfl [83, 88, 148] 80 ?_
    simp only [pc_Mod_isMended_0, pc_Mod_isMended_1, pc_Mod_isMended_2, pc_Mod_isMended_3, pc_Mod_isMended_4, pc_Mod_isMended_5, ma_go, ev_A, ev_B, ev_C, ev_D, Nat.reduceAdd, List.mem_cons, List.not_mem_nil, or_false, or_true, true_or, false_or, or_self, Nat.reduceEqDiff, reduceCtorEq, ↓reduceIte, List.length_cons, List.length_nil, Nat.reduceLT, Nat.reduceLeDiff, Nat.le_refl, implies_true, true_and, and_true, Option.toList, List.cons_append, List.nil_append]
    exact ⟨fun _ => t, fun q => absurd (nI_le (Nat.le_refl _) (by omega)) q⟩
  | succ m ih =>
    intro s h hs ho h8
    have hp' := on_pt ho hp
    have e7 : h.1 184 7 = nI n := by rw [ho.2 184 (by decide)]; exact h7
    have hv : h.1 194 (16 * b + s) = nI (cl (16 * b + s)) := by rw [ho.2 194 (by decide)]; exact h1 _ (by omega)
    have hv2 : h.1 195 (64 * b + 4 * s + c) = nI (sd (4 * (16 * b + s) + c)) := by rw [ho.2 195 (by decide), show 4 * (16 * b + s) + c = 64 * b + 4 * s + c by omega]; exact h2 _ (by omega)
    have hv3 : h.1 196 s = nI (w s) := by rw [ho.2 196 (by decide)]; exact ha s (by omega)
    have hc' := hcl (16 * b + s) (by omega)
    have l3 := hw s (by omega)
    have t1 := ma_in_of (i := 16 * b + s) gs_194 (by omega) (by decide)
    have t2 := ma_in_of (i := 64 * b + 4 * s + c) gs_195 (by omega) (by decide)
    have t3 := ma_in_of (i := s) gs_196 (by omega) (by decide)
    have aft : ∀ z, z = bz (tR R (ht cl sd w b c) (s + 1)) 16 → nJ l g x Q 121 [some (.ref 184), some (.int (nI b)), some (.int G), some (.int (nI z)), some (.int (nI 1)), some (.int (nI c)), some (.int (nI s)), none] [] 0 0 GS h := by
      intro z hz
      subst hz
      refine ma_run0 po_Mod_isMended rfl rfl [83] 80 ?_
      simp only [pc_Mod_isMended_0, pc_Mod_isMended_1, pc_Mod_isMended_2, pc_Mod_isMended_3, pc_Mod_isMended_4, pc_Mod_isMended_5, ma_go, ev_A, ev_B, ev_C, ev_D, Nat.reduceAdd, List.mem_cons, List.not_mem_nil, or_false, or_true, true_or, false_or, or_self, Nat.reduceEqDiff, reduceCtorEq, ↓reduceIte, List.length_cons, List.length_nil, Nat.reduceLT, Nat.reduceLeDiff, Nat.le_refl, implies_true, true_and, and_true, Option.toList, List.cons_append, List.nil_append, gs_184, pt_Mod hp', e7]
      simp only [pk_mul, nI_add]
      rw [nI_clamp (n := s) (by omega), hv3]
      have nx : ∀ H, on h0 H [189] → (∀ k, k < n → H.1 189 k = cw b c (s + 1) w (h0.1 189) k) → nJ l g x Q 83 [some (.ref 184), some (.int (nI b)), some (.int G), some (.int (nI (bz (tR R (ht cl sd w b c) (s + 1)) 16))), some (.int (nI 1)), some (.int (nI c)), some (.int (nI (s + 1))), some (.int (nI (40 * b + 4 * s + c)))] [] 0 0 GS H := fun H oH hH => ma_J.less (ih (s + 1) H (by omega) oH hH) ⟨rfl, rfl, rfl, rfl, rfl, rfl, rfl, trivial⟩
      refine ⟨fun q => nx h ho (fun k hk => ?_), fun q => ⟨fun q2 => nx h ho (fun k hk => ?_), fun q2 => ?_⟩⟩
      · have s10 := (nI_leI (by omega) (by omega)).mp q
        rw [h8 k hk, cw_e s10]
      · have s10 : s < 10 := Nat.lt_of_not_le (fun z => q (nI_le z (by omega)))
        have i1 := (nI_leI (by omega) (by omega)).mp q2
        have := cw_p (k := k) (w := w) hc s10 (h8 k hk)
        rw [if_neg (by omega)] at this
        exact this
      · have s10 : s < 10 := Nat.lt_of_not_le (fun z => q (nI_le z (by omega)))
        have i1 : 40 * b + 4 * s + c < n := Nat.lt_of_not_le (fun z => q2 (nI_le z (by omega)))
        rw [nI_clamp (n := 40 * b + 4 * s + c) (by omega)]
        refine ⟨t3, ma_in_of gs_189 (by omega) (by decide), nx _ (on_uI ho _ _ (by simp)) (fun k hk => ?_)⟩
        rw [← cw_p (k := k) (w := w) hc s10 (h8 k hk)]
        by_cases e : k = 40 * b + 4 * s + c
        · rw [if_pos e, e, uI_same]
        · rw [if_neg e, uI_ne (fun z => e z.2)]
    refine ma_run0 po_Mod_isMended rfl rfl [83, 121, 148] 80 ?_
    simp only [pc_Mod_isMended_0, pc_Mod_isMended_1, pc_Mod_isMended_2, pc_Mod_isMended_3, pc_Mod_isMended_4, pc_Mod_isMended_5, ma_go, ev_A, ev_B, ev_C, ev_D, Nat.reduceAdd, List.mem_cons, List.not_mem_nil, or_false, or_true, true_or, false_or, or_self, Nat.reduceEqDiff, reduceCtorEq, ↓reduceIte, List.length_cons, List.length_nil, Nat.reduceLT, Nat.reduceLeDiff, Nat.le_refl, implies_true, true_and, and_true, Option.toList, List.cons_append, List.nil_append, gs_184, pt_Mod hp']
    simp only [pk_mul, nI_add, n10, not_false_eq_true, true_implies, false_implies, true_and]
    rw [nI_clamp (n := 16 * b + s) (by omega), hv, nI_clamp (n := 64 * b + 4 * s + c) (by omega), hv2, nI_clamp (n := s) (by omega), hv3, nx_shl1 (by omega), nx_or]
    refine ⟨fun q => absurd q (nI_ge (by omega) (by omega)), fun _ => ⟨t1, fun q => aft _ ?_, fun q => ⟨t3, t2, fun q2 => aft _ ?_, fun q2 => aft _ ?_⟩⟩⟩
    · refine tR_no ?_
      unfold ht
      rw [show (cl (16 * b + s) == 1) = false from beq_eq_false_iff_ne.mpr (fun z => q (by rw [z]))]
      rfl
    · have e1 := (nI_eq (by omega) (by omega)).mp q
      have l4 := hsd s (by omega) e1
      have e2 := (nI_eq (by omega) (by omega)).mp q2
      refine tR_no ?_
      rw [ht_eq e1, e2]
      simp
    · have e1 := (nI_eq (by omega) (by omega)).mp q
      refine tR_yes (by omega) ?_
      rw [ht_eq e1, show (w s == sd (4 * (16 * b + s) + c)) = false from beq_eq_false_iff_ne.mpr (fun z => q2 (by rw [z]))]
      rfl
set_option maxRecDepth 30000 in
theorem im_bits {h0 : ma_H} (hp : pt_ok h0) (hb : b < 4) {z : Nat} (hz : z < 65536) {G W : Int32}
    (hK : ∀ h, on h0 h [191] → h.1 191 b = nI (gf_cn 16 (tb z)) → (∀ k, k ≠ b → h.1 191 k = h0.1 191 k) → nJ l g x Q 174 [some (.ref 184), some (.int (nI b)), some (.int G), some (.int (nI z)), some (.int W), none, none, none] [] 0 0 GS h) :
    ∀ m s h, s + m = 16 → on h0 h [191] → h.1 191 b = nI (gf_cn s (tb z)) → (∀ k, k ≠ b → h.1 191 k = h0.1 191 k) → nJ l g x Q 157 [some (.ref 184), some (.int (nI b)), some (.int G), some (.int (nI z)), some (.int W), some (.int (nI s)), none, none] [] 0 0 GS h := by
  intro m
  induction m with
  | zero =>
    intro s h hs ho h1 h2
    have e : s = 16 := by omega
    subst e
    have t := ma_J.less (ls' := [some (.ref 184), some (.int (nI b)), some (.int G), some (.int (nI z)), some (.int W), some (.int (nI 16)), none, none]) (hK h ho h1 h2) ⟨rfl, rfl, rfl, rfl, rfl, trivial⟩
    refine ma_run0 po_Mod_isMended rfl rfl [157, 174] 80 ?_
    simp only [pc_Mod_isMended_0, pc_Mod_isMended_1, pc_Mod_isMended_2, pc_Mod_isMended_3, pc_Mod_isMended_4, pc_Mod_isMended_5, ma_go, ev_A, ev_B, ev_C, ev_D, Nat.reduceAdd, List.mem_cons, List.not_mem_nil, or_false, or_true, true_or, false_or, or_self, Nat.reduceEqDiff, reduceCtorEq, ↓reduceIte, List.length_cons, List.length_nil, Nat.reduceLT, Nat.reduceLeDiff, Nat.le_refl, implies_true, true_and, and_true, Option.toList, List.cons_append, List.nil_append]
    exact ⟨fun _ => t, fun q => absurd (nI_le (Nat.le_refl _) (by omega)) q⟩
  | succ m ih =>
    intro s h hs ho h1 h2
    have hp' := on_pt ho hp
    have eg : gf_cn (s + 1) (tb z) = gf_cn s (tb z) + zb (tb z s) := rfl
    have hzs : z / 2 ^ s < 65536 := Nat.lt_of_le_of_lt (Nat.div_le_self _ _) hz
    have t1 := ma_in_of (i := b) gs_191 hb (by decide)
    have i2 := ih (s + 1) (ma_uI h 191 b (nI (gf_cn s (tb z) + z / 2 ^ s % 2))) (by omega) (on_uI ho _ _ (by simp)) (by rw [uI_same, eg, zb_tb]) (fun k hk => by rw [uI_ne (fun z => hk z.2)]; exact h2 k hk)
    refine ma_run0 po_Mod_isMended rfl rfl [157, 174] 80 ?_
    simp only [pc_Mod_isMended_0, pc_Mod_isMended_1, pc_Mod_isMended_2, pc_Mod_isMended_3, pc_Mod_isMended_4, pc_Mod_isMended_5, ma_go, ev_A, ev_B, ev_C, ev_D, Nat.reduceAdd, List.mem_cons, List.not_mem_nil, or_false, or_true, true_or, false_or, or_self, Nat.reduceEqDiff, reduceCtorEq, ↓reduceIte, List.length_cons, List.length_nil, Nat.reduceLT, Nat.reduceLeDiff, Nat.le_refl, implies_true, true_and, and_true, Option.toList, List.cons_append, List.nil_append, gs_184, pt_Mod hp']
    rw [nI_clamp (n := b) (by omega), h1, nx_shr (by omega) (by omega), nx_and1 (by omega)]
    simp only [nI_add]
    exact ⟨fun q => absurd q (nI_ge (by omega) (by omega)), fun _ => ⟨t1, t1, i2⟩⟩
set_option maxRecDepth 30000 in
theorem im_zero {h0 : ma_H} (hp : pt_ok h0) (hb : b < 4) (hn : n ≤ 160) (h7 : h0.1 184 7 = nI n) {G O : Int32}
    (hK : ∀ h, on h0 h [189] → (∀ k, k < n → h.1 189 k = if 40 * b ≤ k ∧ k < 40 * b + 40 then nI 0 else h0.1 189 k) → nJ l g x Q 198 [some (.ref 184), some (.int (nI b)), some (.int G), some (.int O), some (.int (nI 0)), none, none, none] [] 0 0 GS h) :
    ∀ m i h, i + m = 40 → on h0 h [189] → (∀ k, h.1 189 k = if 40 * b ≤ k ∧ k < 40 * b + i then nI 0 else h0.1 189 k) → nJ l g x Q 178 [some (.ref 184), some (.int (nI b)), some (.int G), some (.int O), some (.int (nI 0)), some (.int (nI (40 * b + i))), none, none] [] 0 0 GS h := by
  intro m
  induction m with
  | zero =>
    intro i h hs ho h8
    have e : i = 40 := by omega
    subst e
    have t := ma_J.less (ls' := [some (.ref 184), some (.int (nI b)), some (.int G), some (.int O), some (.int (nI 0)), some (.int (nI (40 * b + 40))), none, none]) (hK h ho (fun k _ => h8 k)) ⟨rfl, rfl, rfl, rfl, rfl, trivial⟩
    refine ma_run0 po_Mod_isMended rfl rfl [178, 185, 198] 80 ?_
    simp only [pc_Mod_isMended_0, pc_Mod_isMended_1, pc_Mod_isMended_2, pc_Mod_isMended_3, pc_Mod_isMended_4, pc_Mod_isMended_5, ma_go, ev_A, ev_B, ev_C, ev_D, Nat.reduceAdd, List.mem_cons, List.not_mem_nil, or_false, or_true, true_or, false_or, or_self, Nat.reduceEqDiff, reduceCtorEq, ↓reduceIte, List.length_cons, List.length_nil, Nat.reduceLT, Nat.reduceLeDiff, Nat.le_refl, implies_true, true_and, and_true, Option.toList, List.cons_append, List.nil_append]
    simp only [pk_mul, nI_add]
    exact ⟨fun _ => t, fun q => absurd (nI_le (Nat.le_refl _) (by omega)) q⟩
  | succ m ih =>
    intro i h hs ho h8
    have hp' := on_pt ho hp
    have e7 : h.1 184 7 = nI n := by rw [ho.2 184 (by decide)]; exact h7
    have i2 := ih (i + 1) (ma_uI h 189 (40 * b + i) (nI 0)) (by omega) (on_uI ho _ _ (by simp)) (fun k => by
      by_cases e : k = 40 * b + i
      · rw [e, uI_same, if_pos (by omega)]
      · rw [uI_ne (fun z => e z.2), h8 k]
        by_cases q : 40 * b ≤ k ∧ k < 40 * b + i
        · rw [if_pos q, if_pos (by omega)]
        · rw [if_neg q, if_neg (by omega)])
    refine ma_run0 po_Mod_isMended rfl rfl [178, 198] 80 ?_
    simp only [pc_Mod_isMended_0, pc_Mod_isMended_1, pc_Mod_isMended_2, pc_Mod_isMended_3, pc_Mod_isMended_4, pc_Mod_isMended_5, ma_go, ev_A, ev_B, ev_C, ev_D, Nat.reduceAdd, List.mem_cons, List.not_mem_nil, or_false, or_true, true_or, false_or, or_self, Nat.reduceEqDiff, reduceCtorEq, ↓reduceIte, List.length_cons, List.length_nil, Nat.reduceLT, Nat.reduceLeDiff, Nat.le_refl, implies_true, true_and, and_true, Option.toList, List.cons_append, List.nil_append, gs_184, pt_Mod hp', e7]
    simp only [pk_mul, nI_add]
    refine ⟨fun q => absurd q (nI_ge (by omega) (by omega)), fun _ => ⟨fun q => ?_, fun q => ?_⟩⟩
    · have i1 := (nI_leI (by omega) (by omega)).mp q
      refine ma_J.less (hK h ho (fun k hk => ?_)) ⟨rfl, rfl, rfl, rfl, rfl, trivial⟩
      rw [h8 k]
      by_cases q : 40 * b ≤ k ∧ k < 40 * b + i
      · rw [if_pos q, if_pos (by omega)]
      · rw [if_neg q, if_neg (by omega)]
    · have i1 : 40 * b + i < n := Nat.lt_of_not_le (fun z => q (nI_le z (by omega)))
      rw [nI_clamp (n := 40 * b + i) (by omega)]
      simp only [not_true_eq_false, false_implies, true_implies, true_and]
      exact ⟨ma_in_of gs_189 (by omega) (by decide), i2⟩
end
