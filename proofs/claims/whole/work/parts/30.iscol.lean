/-! the reference's isColumn: all sets of places, the smaller first -/
def nth (W : Nat → Bool) : Nat → Nat → Nat
  | 0, _ => 0
  | m + 1, k => if (W m && (gf_cn m W == k)) = true then m else nth W m k
theorem gf_cn_mono (W : Nat → Bool) {a b : Nat} (h : a ≤ b) : gf_cn a W ≤ gf_cn b W := by
  obtain ⟨d, rfl⟩ : ∃ d, b = a + d := ⟨b - a, by omega⟩
  clear h
  induction d with
  | zero => exact Nat.le_refl _
  | succ d ih => exact Nat.le_trans ih (Nat.le_add_right _ _)
theorem gf_cn_n (W : Nat → Bool) (n : Nat) : gf_cn n W ≤ n := by
  induction n with
  | zero => exact Nat.le_refl _
  | succ n ih => rw [gf_cn]; split <;> omega
theorem cn_in {W : Nat → Bool} {i m : Nat} (hi : i < m) (hW : W i = true) : gf_cn i W < gf_cn m W := by
  have h1 := gf_cn_mono W (show i + 1 ≤ m by omega)
  have h2 : gf_cn (i + 1) W = gf_cn i W + zb (W i) := rfl
  rw [hW] at h2
  have : zb true = 1 := rfl
  omega
theorem nth_at {W : Nat → Bool} : ∀ {m i : Nat}, i < m → W i = true → nth W m (gf_cn i W) = i
  | m + 1, i, hi, hW => by
    rw [nth]
    by_cases e : i = m
    · subst e
      rw [if_pos (by simp [hW])]
    · have := cn_in (show i < m by omega) hW
      rw [if_neg (fun q => by simp at q; omega)]
      exact nth_at (by omega) hW
theorem nth_ex {W : Nat → Bool} : ∀ {m k : Nat}, k < gf_cn m W → ∃ i, i < m ∧ W i = true ∧ gf_cn i W = k
  | 0, k, hk => by
    have : gf_cn 0 W = 0 := rfl
    omega
  | m + 1, k, hk => by
    have h2 : gf_cn (m + 1) W = gf_cn m W + zb (W m) := rfl
    by_cases h : k < gf_cn m W
    · obtain ⟨i, h1, h3, h4⟩ := nth_ex h
      exact ⟨i, by omega, h3, h4⟩
    · cases hW : W m
      · rw [hW] at h2
        have : zb false = 0 := rfl
        omega
      · rw [hW] at h2
        have : zb true = 1 := rfl
        exact ⟨m, by omega, hW, by omega⟩
theorem ga_in_of {p : Nat → Nat} {s : Nat} : ∀ {m k : Nat}, k < m → p k = s → ga_in p m s = true
  | m + 1, k, hk, e => by
    rw [ga_in, Bool.or_eq_true]
    by_cases h : k = m
    · subst h
      exact Or.inl (by rw [e]; simp)
    · exact Or.inr (ga_in_of (by omega) e)
theorem ga_in_nth {W : Nat → Bool} {s : Nat} (hs : s < 16) : ga_in (nth W 16) (gf_cn 16 W) s = W s := by
  cases hW : W s
  · cases hb : ga_in (nth W 16) (gf_cn 16 W) s
    · rfl
    · obtain ⟨k, hk, e⟩ := ga_in_yes hb
      obtain ⟨i, h1, h2, h3⟩ := nth_ex hk
      rw [← h3, nth_at h1 h2] at e
      rw [← e, h2] at hW
      cases hW
  · exact ga_in_of (cn_in hs hW) (nth_at hs hW)
def ic_no (c : Nat → Nat) (M : Nat → Bool) (z : Nat) : Prop := ∀ w, (∀ s, s < 16 → w s < 256) → (∀ s, s < 16 → (tb z s || M s) = false → w s = 0) → ¬ ∀ j, j < 6 → gf_sy w j = gf_sy c j
def ic_cl (M : Nat → Bool) (z : Nat) : Prop := ∀ s, s < 16 → ¬ (tb z s = true ∧ M s = true)
theorem ic_end {c : Nat → Nat} {M : Nat → Bool} (hc : ∀ s, s < 16 → c s < 256) (h : ∀ e, 2 * e + gf_cn 16 M ≤ 6 → ∀ z, z < 65536 → gf_cn 16 (tb z) = e → ic_cl M z → ic_no c M z) (w : Nat → Nat) : ¬ gf_md c M w := by
  rintro ⟨w1, w2, w3⟩
  have ht : ∀ s, s < 16 → tb (bz (fun s => !M s && (w s != c s)) 16) s = (!M s && (w s != c s)) := fun s hs => bz_tb _ 16 s hs
  have hcn : gf_cn 16 (tb (bz (fun s => !M s && (w s != c s)) 16)) = gf_cn 16 (fun s => !M s && (w s != c s)) := gf_cn_congr ht
  refine h _ (by rw [hcn]; exact w3) _ (bz_lt _ 16) rfl (fun s hs q => ?_) (fun s => c s ^^^ w s) (fun s hs => gf_xor_lt (hc s hs) (w1 s hs)) (fun s hs q => ?_) (fun j hj => ?_)
  · rw [ht s hs, q.2] at q
    simp at q
  · rw [ht s hs] at q
    have : w s = c s := by
      cases hM : M s
      · rw [hM] at q
        simpa using q
      · rw [hM] at q
        simp at q
    rw [this, Nat.xor_self]
  · rw [gf_sy_xor hc w1, w2 j hj, Nat.xor_zero]
theorem ic_ok {c w : Nat → Nat} {M : Nat → Bool} {z : Nat} (hc : ∀ s, s < 16 → c s < 256) (he : 2 * gf_cn 16 (tb z) + gf_cn 16 M ≤ 6) (hw : ∀ s, s < 16 → w s < 256) (h0 : ∀ s, s < 16 → (tb z s || M s) = false → w s = 0) (hs : ∀ j, j < 6 → gf_sy w j = gf_sy c j) : gf_md c M (fun s => c s ^^^ w s) := by
  refine ⟨fun s hs => gf_xor_lt (hc s hs) (hw s hs), fun j hj => by rw [gf_sy_xor hc hw, hs j hj, Nat.xor_self], ?_⟩
  have := gf_cn_le (n := 16) (p := fun s => !M s && ((c s ^^^ w s) != c s)) (q := tb z) (fun s hs h => by
    simp only [Bool.and_eq_true, Bool.not_eq_true', bne_iff_ne, ne_eq] at h
    cases ht : tb z s
    · refine absurd ?_ h.2
      rw [h0 s hs (by rw [ht, h.1]; rfl), Nat.xor_zero]
    · rfl)
  dsimp only
  omega
abbrev iJ (l : Launch) (g : ma_G) (x : Bool) (Q : ma_P) : ma_K := ma_J l g x none me_Mod_isColumn pr_Mod_isColumn Q
section
variable {l : Launch} {g : ma_G} {x : Bool} {Q : ma_P} {b : Nat} {sc : Nat → Nat} {M : Nat → Bool}
theorem ic_stop {h : ma_H} {gn e z : Nat} {n s : Nat} {t u : Int32} (hF : iJ l g x Q 85 [some (.ref 184), some (.int (nI b)), some (.int (nI gn)), some (.int (nI e)), some (.int (nI z)), none, none, none, none, none] [] 0 0 GS h) : iJ l g x Q 25 [some (.ref 184), some (.int (nI b)), some (.int (nI gn)), some (.int (nI e)), some (.int (nI z)), some (.int (nI 0)), some (.int (nI n)), some (.int (nI s)), some (.int t), some (.int u)] [] 0 0 GS h := by
  refine ma_run0 po_Mod_isColumn rfl rfl [25, 79, 85] 60 ?_
  simp only [pa_Mod_isColumn, ma_go, ev_A, ev_B, ev_C, ev_D, Nat.reduceAdd, List.mem_cons, List.not_mem_nil, or_false, or_true, true_or, false_or, or_self, Nat.reduceEqDiff, reduceCtorEq, ↓reduceIte, List.length_cons, List.length_nil, Nat.reduceLT, Nat.reduceLeDiff, Nat.le_refl, implies_true, true_and, and_true, Option.toList, List.cons_append, List.nil_append]
  have q := ma_J.less (ls' := [some (.ref 184), some (.int (nI b)), some (.int (nI gn)), some (.int (nI e)), some (.int (nI z)), some (.int (nI 0)), some (.int (nI n)), some (.int (nI s)), some (.int t), some (.int u)]) hF ⟨rfl, rfl, rfl, rfl, rfl, trivial⟩
  simp only [not_true_eq_false, false_implies, true_implies, and_true]
  exact ⟨fun _ => q, fun _ => q⟩
theorem ic_fit {h0 : ma_H} (hp : pt_ok h0) (hb : b < 4) (hs : ∀ s, s < 16 → h0.1 194 (16 * b + s) = nI (sc s) ∧ sc s < 2 ^ 30 ∧ M s = !(sc s == 1)) {gn e z : Nat} (hz : z < 65536) (hW6 : gf_cn 16 (fun s => tb z s || M s) ≤ 6)
    (hK : ∀ h, on h0 h [198] → ic_cl M z → (∀ i, i < 16 → (tb z i || M i) = true → h.1 198 (gf_cn i (fun s => tb z s || M s)) = nI i) → iJ l g x Q 79 [some (.ref 184), some (.int (nI b)), some (.int (nI gn)), some (.int (nI e)), some (.int (nI z)), none, some (.int (nI (gf_cn 16 (fun s => tb z s || M s)))), none, none, none] [] 0 0 GS h)
    (hF : ∀ h, on h0 h [198] → ¬ ic_cl M z → iJ l g x Q 85 [some (.ref 184), some (.int (nI b)), some (.int (nI gn)), some (.int (nI e)), some (.int (nI z)), none, none, none, none, none] [] 0 0 GS h) :
    ∀ m s h, s + m = 16 → on h0 h [198] → (∀ i, i < s → ¬ (tb z i = true ∧ M i = true)) → (∀ i, i < s → (tb z i || M i) = true → h.1 198 (gf_cn i (fun s => tb z s || M s)) = nI i) → iJ l g x Q 25 [some (.ref 184), some (.int (nI b)), some (.int (nI gn)), some (.int (nI e)), some (.int (nI z)), some (.int (nI 1)), some (.int (nI (gf_cn s (fun s => tb z s || M s)))), some (.int (nI s)), none, none] [] 0 0 GS h := by
  intro m
  induction m with
  | zero =>
    intro s h hs16 ho hcl hpl
    have e : s = 16 := by omega
    subst e
    refine ma_run0 po_Mod_isColumn rfl rfl [25, 79, 85] 60 ?_
    simp only [pa_Mod_isColumn, ma_go, ev_A, ev_B, ev_C, ev_D, Nat.reduceAdd, List.mem_cons, List.not_mem_nil, or_false, or_true, true_or, false_or, or_self, Nat.reduceEqDiff, reduceCtorEq, ↓reduceIte, List.length_cons, List.length_nil, Nat.reduceLT, Nat.reduceLeDiff, Nat.le_refl, implies_true, true_and, and_true, Option.toList, List.cons_append, List.nil_append]
    refine ⟨fun _ => ⟨fun q => absurd q (by decide +kernel), fun _ => ma_J.less (hK h ho (fun i hi => hcl i hi) (fun i hi => hpl i hi)) ⟨rfl, rfl, rfl, rfl, rfl, rfl, trivial⟩⟩, fun q => absurd (nI_le (Nat.le_refl _) (by omega)) q⟩
  | succ m ih =>
    intro s h hs16 ho hcl hpl
    obtain ⟨s1, s2, s3⟩ := hs s (by omega)
    have hp' := on_pt ho hp
    have hzs : z / 2 ^ s < 65536 := Nat.lt_of_le_of_lt (Nat.div_le_self _ _) hz
    have hcs : gf_cn (s + 1) (fun s => tb z s || M s) = gf_cn s (fun s => tb z s || M s) + zb (tb z s || M s) := rfl
    have hsh : h.1 194 (16 * b + s) = nI (sc s) := by rw [ho.2 194 (by decide)]; exact s1
    have eT : nI (z / 2 ^ s % 2) = nI 1 ↔ tb z s = true := by
      rw [nI_eq (by omega) (by omega)]
      unfold tb
      exact beq_iff_eq.symm
    have eM : nI (sc s) = nI 1 ↔ M s = false := by
      rw [nI_eq (by omega) (by omega), s3]
      simp
    have i2 := ih (s + 1)
    rw [hcs] at i2
    refine ma_run0 po_Mod_isColumn rfl rfl [25, 79, 85] 80 ?_
    simp only [pa_Mod_isColumn, ma_go, ev_A, ev_B, ev_C, ev_D, Nat.reduceAdd, List.mem_cons, List.not_mem_nil, or_false, or_true, true_or, false_or, or_self, Nat.reduceEqDiff, reduceCtorEq, ↓reduceIte, List.length_cons, List.length_nil, Nat.reduceLT, Nat.reduceLeDiff, Nat.le_refl, implies_true, true_and, and_true, Option.toList, List.cons_append, List.nil_append, pt_Mod hp', gs_184]
    rw [nx_shr (by omega) (by omega), nx_and1 (by omega), pk_mul, nI_add, nI_clamp (n := 16 * b + s) (by omega), hsh, nx_1, nx_1]
    have t16 := ma_in_of (i := 16 * b + s) gs_194 (by omega) (by decide)
    have n10 : ¬ nI 1 = nI 0 := by decide +kernel
    have nx0 : ∀ v, gf_cn s (fun s => tb z s || M s) = v → v < 6 → True := fun _ _ _ => trivial
    have q1 : ¬ nI 16 ≤ nI s := nI_ge (by omega) (by omega)
    simp only [eT, eM, n10, not_false_eq_true, not_true_eq_false, true_implies, false_implies, and_true, true_and]
    have cl1 : ¬ (tb z s = true ∧ M s = true) → ∀ i, i < s + 1 → ¬ (tb z i = true ∧ M i = true) := fun hh i hi => by
      by_cases e : i = s
      · rw [e]; exact hh
      · exact hcl i (by omega)
    have pl1 : ∀ i, i < s + 1 → (tb z i || M i) = true → (tb z s || M s) = true → (ma_uI h 198 (gf_cn s (fun s => tb z s || M s)) (nI s)).1 198 (gf_cn i (fun s => tb z s || M s)) = nI i := fun i hi h1 h2 => by
      by_cases e : i = s
      · rw [e]; exact uI_same _ _ _ _
      · have := cn_in (W := fun s => tb z s || M s) (show i < s by omega) h1
        rw [uI_ne (fun q => by omega)]
        exact hpl i (by omega) h1
    have b6 : (tb z s || M s) = true → gf_cn s (fun s => tb z s || M s) < 6 := fun h2 => by
      have := cn_in (W := fun s => tb z s || M s) (show s < 16 by omega) h2
      omega
    cases hT : tb z s
    · cases hM : M s
      · simp only [reduceCtorEq, not_false_eq_true, not_true_eq_false, true_implies, false_implies, and_true, true_and, imp_false]
        rw [hT, hM] at i2
        exact ⟨fun q => absurd q q1, fun _ => ⟨t16, ma_J.less (i2 h (by omega) ho (cl1 (by rw [hT]; simp)) (fun i hi hi2 => by by_cases e : i = s; (rw [e, hT, hM] at hi2; cases hi2); (exact hpl i (by omega) hi2))) ⟨rfl, rfl, rfl, rfl, rfl, rfl, rfl, rfl, trivial⟩⟩⟩
      · simp only [reduceCtorEq, not_false_eq_true, not_true_eq_false, true_implies, false_implies, and_true, true_and, imp_false]
        rw [hT, hM] at i2
        have b7 := b6 (by rw [hT, hM]; rfl)
        rw [nI_clamp (n := gf_cn s (fun s => tb z s || M s)) (by omega)]
        exact ⟨fun q => absurd q q1, fun _ => ⟨t16, ma_in_of gs_198 b7 (by decide), ma_J.less (i2 _ (by omega) (on_uI ho _ _ (by simp)) (cl1 (by rw [hT]; simp)) (fun i hi h1 => pl1 i hi h1 (by rw [hT, hM]; rfl))) ⟨rfl, rfl, rfl, rfl, rfl, rfl, rfl, rfl, trivial⟩⟩⟩
    · cases hM : M s
      · simp only [reduceCtorEq, not_false_eq_true, not_true_eq_false, true_implies, false_implies, and_true, true_and, imp_false]
        rw [hT, hM] at i2
        have b7 := b6 (by rw [hT, hM]; rfl)
        rw [nI_clamp (n := gf_cn s (fun s => tb z s || M s)) (by omega)]
        exact ⟨fun q => absurd q q1, fun _ => ⟨t16, ma_in_of gs_198 b7 (by decide), ma_J.less (i2 _ (by omega) (on_uI ho _ _ (by simp)) (cl1 (by rw [hM]; simp)) (fun i hi h1 => pl1 i hi h1 (by rw [hT, hM]; rfl))) ⟨rfl, rfl, rfl, rfl, rfl, rfl, rfl, rfl, trivial⟩⟩⟩
      · simp only [reduceCtorEq, not_false_eq_true, not_true_eq_false, true_implies, false_implies, and_true, true_and, imp_false]
        exact ⟨fun q => absurd q q1, fun _ => ⟨t16, ic_stop (hF h ho (fun hc => hc s (by omega) ⟨hT, hM⟩))⟩⟩
/-- one set of places, from the count of its bits on -/
theorem ic_set {h0 : ma_H} (hp : pt_ok h0) (hm : mt_ok h0) (hb : b < 4) (hs : ∀ s, s < 16 → h0.1 194 (16 * b + s) = nI (sc s) ∧ sc s < 2 ^ 30 ∧ M s = !(sc s == 1)) {c : Nat → Nat} (hc : ∀ s, s < 16 → c s < 256) {e : Nat} (he : 2 * e + gf_cn 16 M ≤ 6)
    (hY : ∀ h v w, on h0 h [196, 197, 198] → v = some (.int (nI 1)) → gf_md c M w → ar h 196 16 w → Q v GS h)
    (hK : ∀ h, on h0 h [196, 197, 198] → ar h 196 16 c → (∀ z, z < 65536 → gf_cn 16 (tb z) = e → ic_cl M z → ic_no c M z) → iJ l g x Q 87 [some (.ref 184), some (.int (nI b)), some (.int (nI (gf_cn 16 M))), some (.int (nI e)), none, none, none, none, none, none] [] 0 0 GS h) :
    ∀ m z h, z + m = 65536 → on h0 h [196, 197, 198] → ar h 196 16 c → (∀ y, y < z → gf_cn 16 (tb y) = e → ic_cl M y → ic_no c M y) → iJ l g x Q 11 [some (.ref 184), some (.int (nI b)), some (.int (nI (gf_cn 16 M))), some (.int (nI e)), some (.int (nI z)), none, none, none, none, none] [] 0 0 GS h := by
  intro m
  induction m with
  | zero =>
    intro z h hz ho hv hno
    have e : z = 65536 := by omega
    subst e
    refine ma_run0 po_Mod_isColumn rfl rfl [11, 87] 60 ?_
    simp only [pa_Mod_isColumn, ma_go, ev_A, ev_B, ev_C, ev_D, Nat.reduceAdd, List.mem_cons, List.not_mem_nil, or_false, or_true, true_or, false_or, or_self, Nat.reduceEqDiff, reduceCtorEq, ↓reduceIte, List.length_cons, List.length_nil, Nat.reduceLT, Nat.reduceLeDiff, Nat.le_refl, implies_true, true_and, and_true, Option.toList, List.cons_append, List.nil_append]
    exact ⟨fun _ => ma_J.less (hK h ho hv (fun z hz => hno z hz)) ⟨rfl, rfl, rfl, rfl, trivial⟩, fun q => absurd (nI_le (Nat.le_refl _) (by omega)) q⟩
  | succ m ih =>
    intro z h hz ho hv hno
    have hp' := on_pt ho hp
    have hn6 : gf_cn 16 (fun s => tb z s || M s) ≤ gf_cn 16 (tb z) + gf_cn 16 M := gf_cn_or 16 (tb z) M
    have next : ∀ h, on h0 h [196, 197, 198] → ar h 196 16 c → (gf_cn 16 (tb z) = e → ic_cl M z → ic_no c M z) → iJ l g x Q 85 [some (.ref 184), some (.int (nI b)), some (.int (nI (gf_cn 16 M))), some (.int (nI e)), some (.int (nI z)), none, none, none, none, none] [] 0 0 GS h := by
      intro h ho hv hn
      refine ma_run0 po_Mod_isColumn rfl rfl [11] 60 ?_
      simp only [pa_Mod_isColumn, ma_go, ev_A, ev_B, ev_C, ev_D, Nat.reduceAdd, List.mem_cons, List.not_mem_nil, or_false, or_true, true_or, false_or, or_self, Nat.reduceEqDiff, reduceCtorEq, ↓reduceIte, List.length_cons, List.length_nil, Nat.reduceLT, Nat.reduceLeDiff, Nat.le_refl, implies_true, true_and, and_true, Option.toList, List.cons_append, List.nil_append]
      rw [nx_1]
      exact ih (z + 1) h (by omega) ho hv (fun y hy => by by_cases q : y = z; (rw [q]; exact hn); (exact hno y (by omega)))
    refine ma_run0 po_Mod_isColumn rfl rfl [11, 25, 85, 87] 60 ?_
    simp only [pa_Mod_isColumn, ma_go, ev_A, ev_B, ev_C, ev_D, Nat.reduceAdd, List.mem_cons, List.not_mem_nil, or_false, or_true, true_or, false_or, or_self, Nat.reduceEqDiff, reduceCtorEq, ↓reduceIte, List.length_cons, List.length_nil, Nat.reduceLT, Nat.reduceLeDiff, Nat.le_refl, implies_true, true_and, and_true, Option.toList, List.cons_append, List.nil_append]
    refine ⟨fun q => absurd q (nI_ge (by omega) (by omega)), fun _ => ?_⟩
    refine ma_callD mt_Mod_ones rfl rfl (Nat.le_of_ble_eq_true rfl) (Nat.le_refl _) (Nat.le_refl _) (m_ones l g x GS h (by omega)) ?_
    simp only [pa_Mod_isColumn, ma_go, ev_A, ev_B, ev_C, ev_D, Nat.reduceAdd, List.mem_cons, List.not_mem_nil, or_false, or_true, true_or, false_or, or_self, Nat.reduceEqDiff, reduceCtorEq, ↓reduceIte, List.length_cons, List.length_nil, Nat.reduceLT, Nat.reduceLeDiff, Nat.le_refl, implies_true, true_and, and_true, Option.toList, List.cons_append, List.nil_append]
    have c16 := gf_cn_n (tb z) 16
    refine ⟨fun q => ?_, fun q => next h ho hv (fun e1 => absurd (by rw [e1]) q)⟩
    have hce : gf_cn 16 (tb z) = e := (nI_eq (by omega) (by omega)).mp q
    refine ic_fit (M := M) (sc := sc) hp' hb (fun s hs' => by rw [ho.2 194 (by decide)]; exact hs s hs') (show z < 65536 by omega) (by omega) (fun h2 ho2 hcl hpl2 => ?_) (fun h2 ho2 hnc => next h2 (on_tr ho (on_mo ho2 (by simp))) (ar_on ho2 (by decide) hv) (fun _ hcl => absurd hcl hnc)) 16 0 h (by omega) (on_rf h _) (fun i hi => by omega) (fun i hi => by omega)
    have o2 := on_tr ho (on_mo (L' := [196, 197, 198]) ho2 (by simp))
    refine ma_run0 po_Mod_isColumn rfl rfl [85] 60 ?_
    simp only [pa_Mod_isColumn, ma_go, ev_A, ev_B, ev_C, ev_D, Nat.reduceAdd, List.mem_cons, List.not_mem_nil, or_false, or_true, true_or, false_or, or_self, Nat.reduceEqDiff, reduceCtorEq, ↓reduceIte, List.length_cons, List.length_nil, Nat.reduceLT, Nat.reduceLeDiff, Nat.le_refl, implies_true, true_and, and_true, Option.toList, List.cons_append, List.nil_append, gs_184]
    have k1 : ∀ k, k < gf_cn 16 (fun s => tb z s || M s) → nth (fun s => tb z s || M s) 16 k < 16 := fun k hk => by
      obtain ⟨i, i1, i2, i3⟩ := nth_ex hk
      rw [← i3, nth_at i1 i2]
      exact i1
    have k2 : ∀ a b, a < gf_cn 16 (fun s => tb z s || M s) → b < gf_cn 16 (fun s => tb z s || M s) → nth (fun s => tb z s || M s) 16 a = nth (fun s => tb z s || M s) 16 b → a = b := fun a b ha hb q => by
      obtain ⟨i, i1, i2, i3⟩ := nth_ex ha
      obtain ⟨j, j1, j2, j3⟩ := nth_ex hb
      rw [← i3, ← j3, nth_at i1 i2, nth_at j1 j2] at q
      rw [← i3, ← j3, q]
    have k3 : ar h2 198 (gf_cn 16 (fun s => tb z s || M s)) (nth (fun s => tb z s || M s) 16) := fun k hk => by
      obtain ⟨i, i1, i2, i3⟩ := nth_ex hk
      rw [← i3, nth_at i1 i2]
      exact hpl2 i i1 i2
    refine ma_callP mt_Mod_solved rfl rfl (Nat.le_of_ble_eq_true rfl) (Nat.le_refl _) (Nat.le_refl _) (m_solved l g x (on_pt o2 hp) (mt_on o2 (by decide) (by decide) hm) hc (ar_on ho2 (by decide) hv) (by omega) k1 k2 k3) ?_
    intro v S' h3 hpost
    obtain ⟨rfl, ho3, hh⟩ := hpost
    have o3 := on_tr o2 (on_mo (L' := [196, 197, 198]) ho3 (by simp))
    rcases hh with ⟨rfl, w, w1, w2, w3, w4⟩ | ⟨rfl, a1, a2⟩
    · simp only [pa_Mod_isColumn, ma_go, ev_A, ev_B, ev_C, ev_D, Nat.reduceAdd, List.mem_cons, List.not_mem_nil, or_false, or_true, true_or, false_or, or_self, Nat.reduceEqDiff, reduceCtorEq, ↓reduceIte, List.length_cons, List.length_nil, Nat.reduceLT, Nat.reduceLeDiff, Nat.le_refl, implies_true, true_and, and_true, Option.toList, List.cons_append, List.nil_append]
      refine ⟨fun q => absurd q (by decide +kernel), fun _ => ?_⟩
      exact hY h3 _ _ o3 rfl (ic_ok (z := z) hc (by rw [hce]; exact he) w1 (fun s hs q => w2 s hs (by rw [ga_in_nth hs]; exact q)) w3) w4
    · simp only [pa_Mod_isColumn, ma_go, ev_A, ev_B, ev_C, ev_D, Nat.reduceAdd, List.mem_cons, List.not_mem_nil, or_false, or_true, true_or, false_or, or_self, Nat.reduceEqDiff, reduceCtorEq, ↓reduceIte, List.length_cons, List.length_nil, Nat.reduceLT, Nat.reduceLeDiff, Nat.le_refl, implies_true, true_and, and_true, Option.toList, List.cons_append, List.nil_append]
      have nn : iJ l g x Q 85 [some (.ref 184), some (.int (nI b)), some (.int (nI (gf_cn 16 M))), some (.int (nI e)), some (.int (nI z)), none, none, none, none, none] [] 0 0 GS h3 := next h3 o3 a1 (fun _ _ w hw h0 => a2 w hw (fun s hs q => h0 s hs (by rw [ga_in_nth hs] at q; exact q)))
      refine ⟨fun _ => ma_J.less nn ⟨rfl, rfl, rfl, rfl, rfl, trivial⟩, fun q => absurd trivial q⟩
theorem ic_err {h0 : ma_H} (hp : pt_ok h0) (hm : mt_ok h0) (hb : b < 4) (hs : ∀ s, s < 16 → h0.1 194 (16 * b + s) = nI (sc s) ∧ sc s < 2 ^ 30 ∧ M s = !(sc s == 1)) {c : Nat → Nat} (hc : ∀ s, s < 16 → c s < 256)
    (hY : ∀ h v w, on h0 h [196, 197, 198] → v = some (.int (nI 1)) → gf_md c M w → ar h 196 16 w → Q v GS h)
    (hN : ∀ h v, on h0 h [196, 197, 198] → v = some (.int (nI 0)) → (∀ w, ¬ gf_md c M w) → ar h 196 16 c → Q v GS h) :
    ∀ m e h, e + m = 4 → on h0 h [196, 197, 198] → ar h 196 16 c → (∀ d, d < e → 2 * d + gf_cn 16 M ≤ 6 → ∀ z, z < 65536 → gf_cn 16 (tb z) = d → ic_cl M z → ic_no c M z) → iJ l g x Q 2 [some (.ref 184), some (.int (nI b)), some (.int (nI (gf_cn 16 M))), some (.int (nI e)), none, none, none, none, none, none] [] 0 0 GS h := by
  have c16 := gf_cn_n M 16
  intro m
  induction m with
  | zero =>
    intro e h he ho hv hno
    refine ma_run0 po_Mod_isColumn rfl rfl [2, 11] 60 ?_
    simp only [pa_Mod_isColumn, ma_go, ev_A, ev_B, ev_C, ev_D, Nat.reduceAdd, List.mem_cons, List.not_mem_nil, or_false, or_true, true_or, false_or, or_self, Nat.reduceEqDiff, reduceCtorEq, ↓reduceIte, List.length_cons, List.length_nil, Nat.reduceLT, Nat.reduceLeDiff, Nat.le_refl, implies_true, true_and, and_true, Option.toList, List.cons_append, List.nil_append]
    rw [pk_mul, nI_add]
    refine ⟨fun q => ?_, fun q => ?_⟩
    · exact hN h _ ho rfl (ic_end hc (fun d hd => hno d (by omega) hd)) hv
    · exact absurd (nI_lt (by omega) (by omega)) q
  | succ m ih =>
    intro e h he ho hv hno
    refine ma_run0 po_Mod_isColumn rfl rfl [2, 11] 60 ?_
    simp only [pa_Mod_isColumn, ma_go, ev_A, ev_B, ev_C, ev_D, Nat.reduceAdd, List.mem_cons, List.not_mem_nil, or_false, or_true, true_or, false_or, or_self, Nat.reduceEqDiff, reduceCtorEq, ↓reduceIte, List.length_cons, List.length_nil, Nat.reduceLT, Nat.reduceLeDiff, Nat.le_refl, implies_true, true_and, and_true, Option.toList, List.cons_append, List.nil_append]
    rw [pk_mul, nI_add]
    refine ⟨fun q => ?_, fun q => ?_⟩
    · have h6 := (nI_ltI (by omega) (by omega)).mp q
      exact hN h _ ho rfl (ic_end hc (fun d hd => hno d (by omega) hd)) hv
    · have h6 : 2 * e + gf_cn 16 M ≤ 6 := Nat.le_of_not_lt (fun z => q (nI_lt z (by omega)))
      refine ic_set hp hm hb hs hc h6 hY (fun h2 o2 a2 n2 => ?_) 65536 0 h (by omega) ho hv (fun y hy => by omega)
      refine ma_run0 po_Mod_isColumn rfl rfl [2] 60 ?_
      simp only [pa_Mod_isColumn, ma_go, ev_A, ev_B, ev_C, ev_D, Nat.reduceAdd, List.mem_cons, List.not_mem_nil, or_false, or_true, true_or, false_or, or_self, Nat.reduceEqDiff, reduceCtorEq, ↓reduceIte, List.length_cons, List.length_nil, Nat.reduceLT, Nat.reduceLeDiff, Nat.le_refl, implies_true, true_and, and_true, Option.toList, List.cons_append, List.nil_append]
      rw [nx_1]
      exact ih (e + 1) h2 (by omega) o2 a2 (fun d hd => by by_cases q : d = e; (rw [q]; exact fun _ => n2); (exact hno d (by omega)))
end
theorem m_isColumn (l : Launch) (g : ma_G) (x : Bool) {h : ma_H} (hp : pt_ok h) (hm : mt_ok h) {b : Nat} (hb : b < 4) {sc : Nat → Nat} {M : Nat → Bool} (hs : ∀ s, s < 16 → h.1 194 (16 * b + s) = nI (sc s) ∧ sc s < 2 ^ 30 ∧ M s = !(sc s == 1)) {c : Nat → Nat} (hc : ∀ s, s < 16 → c s < 256) (h2 : ar h 196 16 c) : ma_PM l g x me_Mod_isColumn [.ref 184, .int (nI b), .int (nI (gf_cn 16 M))] GS h (fun v S' h' => S' = GS ∧ on h h' [196, 197, 198] ∧ ((v = some (.int (nI 1)) ∧ ∃ w, gf_md c M w ∧ ar h' 196 16 w) ∨ (v = some (.int (nI 0)) ∧ (∀ w, ¬ gf_md c M w) ∧ ar h' 196 16 c))) := by
  refine ma_PM_of (P := pr_Mod_isColumn) (by decide) rfl (Nat.le_of_ble_eq_true rfl) ?_
  show ma_J l g x none me_Mod_isColumn pr_Mod_isColumn _ 0 [some (.ref 184), some (.int (nI b)), some (.int (nI (gf_cn 16 M))), none, none, none, none, none, none, none] [] 0 0 GS h
  refine ma_run0 po_Mod_isColumn rfl rfl [2] 60 ?_
  simp only [pa_Mod_isColumn, ma_go, ev_A, ev_B, ev_C, ev_D, Nat.reduceAdd, List.mem_cons, List.not_mem_nil, or_false, or_true, true_or, false_or, or_self, Nat.reduceEqDiff, reduceCtorEq, ↓reduceIte, List.length_cons, List.length_nil, Nat.reduceLT, Nat.reduceLeDiff, Nat.le_refl, implies_true, true_and, and_true, Option.toList, List.cons_append, List.nil_append]
  exact ic_err hp hm hb hs hc (fun h' v w o hv hw ha => ⟨rfl, o, Or.inl ⟨hv, w, hw, ha⟩⟩) (fun h' v o hv hw ha => ⟨rfl, o, Or.inr ⟨hv, hw, ha⟩⟩) 4 0 h (by omega) (on_rf h _) h2 (fun d hd => by omega)
