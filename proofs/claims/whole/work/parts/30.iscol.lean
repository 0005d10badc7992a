/-! the reference's isColumn: all sets of places, the smaller first -/
def nth (W : Nat → Bool) : Nat → Nat → Nat
  | 0, _ => 0
  | m + 1, k => if (W m && (gf_cn m W == k)) = true then m else nth W m k
theorem gf_cn_mono (W : Nat → Bool) {a b : Nat} (h : a ≤ b) : gf_cn a W ≤ gf_cn b W := by
  obtain ⟨d, rfl⟩ : ∃ d, b = a + d := ⟨b - a, by omega⟩
  clear h
  induction d with
  | zero => exact Nat.le_refl _
  | succ d ih => exact Nat.le_trans ih (Nat.le_add_right _ _)
theorem cn_in {W : Nat → Bool} {i m : Nat} (hi : i < m) (hW : W i = true) : gf_cn i W < gf_cn m W := by
  have h1 := gf_cn_mono W (show i + 1 ≤ m by omega)
  have h2 : gf_cn (i + 1) W = gf_cn i W + zb (W i) := rfl
  rw [hW] at h2
  have : zb true = 1 := rfl
  omega
theorem nth_at {W : Nat → Bool} : ∀ {m i : Nat}, i < m → W i = true → nth W m (gf_cn i W) = i
  | m + 1, i, hi, hW => by
    rw [nth]
    by_cases e : i = m
    · subst e
      rw [if_pos (by simp [hW])]
    · have := cn_in (show i < m by omega) hW
      rw [if_neg (fun q => by simp at q; omega)]
      exact nth_at (by omega) hW
theorem nth_ex {W : Nat → Bool} : ∀ {m k : Nat}, k < gf_cn m W → ∃ i, i < m ∧ W i = true ∧ gf_cn i W = k
  | 0, k, hk => by
    have : gf_cn 0 W = 0 := rfl
    omega
  | m + 1, k, hk => by
    have h2 : gf_cn (m + 1) W = gf_cn m W + zb (W m) := rfl
    by_cases h : k < gf_cn m W
    · obtain ⟨i, h1, h3, h4⟩ := nth_ex h
      exact ⟨i, by omega, h3, h4⟩
    · cases hW : W m
      · rw [hW] at h2
        have : zb false = 0 := rfl
        omega
      · rw [hW] at h2
        have : zb true = 1 := rfl
        exact ⟨m, by omega, hW, by omega⟩
theorem ga_in_of {p : Nat → Nat} {s : Nat} : ∀ {m k : Nat}, k < m → p k = s → ga_in p m s = true
  | m + 1, k, hk, e => by
    rw [ga_in, Bool.or_eq_true]
    by_cases h : k = m
    · subst h
      exact Or.inl (by rw [e]; simp)
    · exact Or.inr (ga_in_of (by omega) e)
theorem ga_in_nth {W : Nat → Bool} {s : Nat} (hs : s < 16) : ga_in (nth W 16) (gf_cn 16 W) s = W s := by
  cases hW : W s
  · cases hb : ga_in (nth W 16) (gf_cn 16 W) s
    · rfl
    · obtain ⟨k, hk, e⟩ := ga_in_yes hb
      obtain ⟨i, h1, h2, h3⟩ := nth_ex hk
      rw [← h3, nth_at h1 h2] at e
      rw [← e, h2] at hW
      cases hW
  · exact ga_in_of (cn_in hs hW) (nth_at hs hW)
def ic_no (c : Nat → Nat) (M : Nat → Bool) (z : Nat) : Prop := ∀ w, (∀ s, s < 16 → w s < 256) → (∀ s, s < 16 → (tb z s || M s) = false → w s = 0) → ¬ ∀ j, j < 6 → gf_sy w j = gf_sy c j
def ic_cl (M : Nat → Bool) (z : Nat) : Prop := ∀ s, s < 16 → ¬ (tb z s = true ∧ M s = true)
theorem ic_end {c : Nat → Nat} {M : Nat → Bool} (hc : ∀ s, s < 16 → c s < 256) (h : ∀ e, 2 * e + gf_cn 16 M ≤ 6 → ∀ z, z < 65536 → gf_cn 16 (tb z) = e → ic_cl M z → ic_no c M z) (w : Nat → Nat) : ¬ gf_md c M w := by
  rintro ⟨w1, w2, w3⟩
  have ht : ∀ s, s < 16 → tb (bz (fun s => !M s && (w s != c s)) 16) s = (!M s && (w s != c s)) := fun s hs => bz_tb _ 16 s hs
  have hcn : gf_cn 16 (tb (bz (fun s => !M s && (w s != c s)) 16)) = gf_cn 16 (fun s => !M s && (w s != c s)) := gf_cn_congr ht
  refine h _ (by rw [hcn]; exact w3) _ (bz_lt _ 16) rfl (fun s hs q => ?_) (fun s => c s ^^^ w s) (fun s hs => gf_xor_lt (hc s hs) (w1 s hs)) (fun s hs q => ?_) (fun j hj => ?_)
  · rw [ht s hs, q.2] at q
    simp at q
  · rw [ht s hs] at q
    dsimp only
    have : w s = c s := by
      cases hM : M s
      · rw [hM] at q
        simpa using q
      · rw [hM] at q
        simp at q
    rw [this, Nat.xor_self]
  · rw [gf_sy_xor hc w1, w2 j hj, Nat.xor_zero]
theorem ic_ok {c w : Nat → Nat} {M : Nat → Bool} {z : Nat} (hc : ∀ s, s < 16 → c s < 256) (he : 2 * gf_cn 16 (tb z) + gf_cn 16 M ≤ 6) (hw : ∀ s, s < 16 → w s < 256) (h0 : ∀ s, s < 16 → (tb z s || M s) = false → w s = 0) (hs : ∀ j, j < 6 → gf_sy w j = gf_sy c j) : gf_md c M (fun s => c s ^^^ w s) := by
  refine ⟨fun s hs => gf_xor_lt (hc s hs) (hw s hs), fun j hj => by rw [gf_sy_xor hc hw, hs j hj, Nat.xor_self], ?_⟩
  have := gf_cn_le (n := 16) (p := fun s => !M s && ((c s ^^^ w s) != c s)) (q := tb z) (fun s hs h => by
    simp only [Bool.and_eq_true, Bool.not_eq_true', bne_iff_ne, ne_eq] at h
    cases ht : tb z s
    · refine absurd ?_ h.2
      rw [h0 s hs (by rw [ht, h.1]; rfl), Nat.xor_zero]
    · rfl)
  dsimp only
  omega
abbrev iJ (l : Launch) (g : ma_G) (x : Bool) (Q : ma_P) : ma_K := ma_J l g x none me_Mod_isColumn pr_Mod_isColumn Q
section
variable {l : Launch} {g : ma_G} {x : Bool} {Q : ma_P} {b : Nat} {sc : Nat → Nat} {M : Nat → Bool}
theorem ic_fit {h0 : ma_H} (hp : pt_ok h0) (hb : b < 4) (hs : ∀ s, s < 16 → h0.1 194 (16 * b + s) = nI (sc s) ∧ sc s < 2 ^ 30 ∧ M s = !(sc s == 1)) {gn e z : Nat} (hz : z < 65536) (hW6 : ic_cl M z → gf_cn 16 (fun s => tb z s || M s) ≤ 6)
    (hK : ∀ h, on h0 h [198] → ic_cl M z → (∀ i, i < 16 → (tb z i || M i) = true → h.1 198 (gf_cn i (fun s => tb z s || M s)) = nI i) → iJ l g x Q 79 [some (.ref 184), some (.int (nI b)), some (.int (nI gn)), some (.int (nI e)), some (.int (nI z)), none, some (.int (nI (gf_cn 16 (fun s => tb z s || M s)))), none, none, none] [] 0 0 GS h)
    (hF : ∀ h, on h0 h [198] → ¬ ic_cl M z → iJ l g x Q 85 [some (.ref 184), some (.int (nI b)), some (.int (nI gn)), some (.int (nI e)), some (.int (nI z)), none, none, none, none, none] [] 0 0 GS h) :
    ∀ m s h, s + m = 16 → on h0 h [198] → (∀ i, i < s → ¬ (tb z i = true ∧ M i = true)) → (∀ i, i < s → (tb z i || M i) = true → h.1 198 (gf_cn i (fun s => tb z s || M s)) = nI i) → iJ l g x Q 25 [some (.ref 184), some (.int (nI b)), some (.int (nI gn)), some (.int (nI e)), some (.int (nI z)), some (.int (nI 1)), some (.int (nI (gf_cn s (fun s => tb z s || M s)))), some (.int (nI s)), none, none] [] 0 0 GS h := by
  intro m
  induction m with
  | zero =>
    intro s h hs16 ho hcl hpl
    have e : s = 16 := by omega
    subst e
    refine ma_run0 po_Mod_isColumn rfl rfl [25, 79, 85] 60 ?_
    simp only [pa_Mod_isColumn, ma_go, ev_A, ev_B, ev_C, ev_D, Nat.reduceAdd, List.mem_cons, List.not_mem_nil, or_false, or_true, true_or, false_or, or_self, Nat.reduceEqDiff, reduceCtorEq, ↓reduceIte, List.length_cons, List.length_nil, Nat.reduceLT, Nat.reduceLeDiff, Nat.le_refl, implies_true, true_and, and_true, Option.toList, List.cons_append, List.nil_append]
    refine ⟨fun _ => ⟨fun q => absurd q (by decide +kernel), fun _ => ma_J.less (hK h ho (fun i hi => hcl i hi) (fun i hi => hpl i hi)) ⟨rfl, rfl, rfl, rfl, rfl, rfl, trivial⟩⟩, fun q => absurd (nI_le (Nat.le_refl _) (by omega)) q⟩
  | succ m ih =>
    intro s h hs16 ho hcl hpl
    obtain ⟨s1, s2, s3⟩ := hs s (by omega)
    have hp' := on_pt ho hp
    have hzs : z / 2 ^ s < 65536 := Nat.lt_of_le_of_lt (Nat.div_le_self _ _) hz
    have hcs : gf_cn (s + 1) (fun s => tb z s || M s) = gf_cn s (fun s => tb z s || M s) + zb (tb z s || M s) := rfl
    have hsh : h.1 194 (16 * b + s) = nI (sc s) := by rw [ho.2 194 (by decide)]; exact s1
    have eT : nI (z / 2 ^ s % 2) = nI 1 ↔ tb z s = true := by
      rw [nI_eq (by omega) (by omega)]
      unfold tb
      exact beq_iff_eq.symm
    have eM : nI (sc s) = nI 1 ↔ M s = false := by
      rw [nI_eq (by omega) (by omega), s3]
      simp
    have i2 := ih (s + 1)
    rw [hcs] at i2
    refine ma_run0 po_Mod_isColumn rfl rfl [25, 79, 85] 80 ?_
    simp only [pa_Mod_isColumn, ma_go, ev_A, ev_B, ev_C, ev_D, Nat.reduceAdd, List.mem_cons, List.not_mem_nil, or_false, or_true, true_or, false_or, or_self, Nat.reduceEqDiff, reduceCtorEq, ↓reduceIte, List.length_cons, List.length_nil, Nat.reduceLT, Nat.reduceLeDiff, Nat.le_refl, implies_true, true_and, and_true, Option.toList, List.cons_append, List.nil_append, pt_Mod hp', gs_184]
    rw [nx_shr (by omega) (by omega), nx_and1 (by omega), pk_mul, nI_add, nI_clamp (n := 16 * b + s) (by omega), hsh, nx_1, nx_1]
    have t16 := ma_in_of (i := 16 * b + s) gs_194 (by omega) (by decide)
    have n10 : ¬ nI 1 = nI 0 := by decide +kernel
    have nx0 : ∀ v, gf_cn s (fun s => tb z s || M s) = v → v < 6 → True := fun _ _ _ => trivial
    cases hT : tb z s
    · cases hM : M s
      · rw [hT, hM] at i2
        have i3 := i2 h (by omega) ho (fun i hi => by by_cases e : i = s; (rw [e, hT]; simp); (exact hcl i (by omega))) (fun i hi hi2 => by by_cases e : i = s; (rw [e, hT, hM] at hi2; cases hi2); (exact hpl i (by omega) hi2))
        done
      · sorry
    · sorry
end
