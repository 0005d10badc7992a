/-! recurrences: Massey's lemma, and the steps of Berlekamp and Massey -/
def gf_gen (C : Nat → Nat) (L : Nat) (T : Nat → Nat) (k : Nat) : Prop := ∀ n, L ≤ n → n < k → gf_s (L + 1) (fun i => gf_m (C i) (T (n - i))) = 0
theorem gf_massey {C D T : Nat → Nat} {L L' k : Nat} (hC : ∀ i, C i < 256) (hD : ∀ i, D i < 256) (hT : ∀ i, T i < 256) (h1 : gf_gen C L T k) (hd : gf_s (L + 1) (fun i => gf_m (C i) (T (k - i))) ≠ 0) (h2 : gf_gen D L' T (k + 1)) (h0 : D 0 = 1) : k + 1 ≤ L + L' := by
  refine Classical.byContradiction fun hn => hd ?_
  have z1 : gf_s (L + 1) (fun i => gf_s (L' + 1) (fun i' => gf_m (C i) (gf_m (D i') (T (k - i - i'))))) = 0 := by
    refine gf_s_zero (fun i hi => ?_)
    rw [← gf_s_mul (hC i) (fun _ _ => gf_m_lt _ _), h2 (k - i) (by omega) (by omega), gf_m_zero_right]
  rw [gf_s_swap, gf_s_first] at z1
  have z2 : gf_s L' (fun i' => gf_s (L + 1) (fun i => gf_m (C i) (gf_m (D (i' + 1)) (T (k - i - (i' + 1)))))) = 0 := by
    refine gf_s_zero (fun i' hi' => ?_)
    have e : gf_s (L + 1) (fun i => gf_m (C i) (gf_m (D (i' + 1)) (T (k - i - (i' + 1))))) = gf_s (L + 1) (fun i => gf_m (D (i' + 1)) (gf_m (C i) (T (k - (i' + 1) - i)))) := by
      refine gf_s_congr (fun i hi => ?_)
      rw [← gf_m_assoc (hC i) (hD _) (hT _), gf_m_comm (C i), gf_m_assoc (hD _) (hC i) (hT _), show k - i - (i' + 1) = k - (i' + 1) - i by omega]
    rw [e, ← gf_s_mul (hD _) (fun _ _ => gf_m_lt _ _), h1 (k - (i' + 1)) (by omega) (by omega), gf_m_zero_right]
  rw [z2, Nat.xor_zero] at z1
  rw [← z1]
  refine gf_s_congr (fun i hi => ?_)
  rw [h0, gf_one_m (hT _), Nat.sub_zero]
/-- the state of the search behind k sums -/
def gf_bm (T : Nat → Nat) (k : Nat) (C B : Nat → Nat) (L m b : Nat) : Prop :=
  (C 0 = 1 ∧ (∀ i, C i < 256) ∧ (∀ i, B i < 256) ∧ (∀ i, L < i → C i = 0) ∧ L ≤ k ∧ gf_gen C L T k ∧ (∀ D L', D 0 = 1 → (∀ i, D i < 256) → gf_gen D L' T k → L ≤ L') ∧ b < 256 ∧ b ≠ 0) ∧
  ((L = 0 ∧ m = k + 1 ∧ b = 1 ∧ B 0 = 1 ∧ ∀ i, 0 < i → B i = 0) ∨
   (0 < L ∧ 1 ≤ m ∧ m ≤ k ∧ ∃ P, P + L = k - m + 1 ∧ (∀ i, P < i → B i = 0) ∧ gf_gen B P T (k - m) ∧ gf_s (P + 1) (fun i => gf_m (B i) (T (k - m - i))) = b))
def gf_one : Nat → Nat := fun i => if i = 0 then 1 else 0
theorem gf_bm_0 (T : Nat → Nat) : gf_bm T 0 gf_one gf_one 0 1 1 := by
  have hl : ∀ i, gf_one i < 256 := fun i => by unfold gf_one; split <;> decide
  exact ⟨⟨rfl, hl, hl, fun i hi => if_neg (by omega), Nat.le_refl _, fun n _ h => by omega, fun _ _ _ _ _ => Nat.zero_le _, by decide, by decide⟩, Or.inl ⟨rfl, rfl, rfl, rfl, fun i hi => if_neg (by omega)⟩⟩
theorem gf_gen_less {D T : Nat → Nat} {L k : Nat} (h : gf_gen D L T (k + 1)) : gf_gen D L T k := fun n h1 h2 => h n h1 (by omega)
/-- no miss -/
theorem gf_bm_zero {T : Nat → Nat} {k : Nat} {C B : Nat → Nat} {L m b : Nat} (h : gf_bm T k C B L m b) (hd : gf_s (L + 1) (fun i => gf_m (C i) (T (k - i))) = 0) : gf_bm T (k + 1) C B L (m + 1) b := by
  obtain ⟨⟨h0, hC, hB, hdeg, hLk, hg, hmin, hb, hb0⟩, hr⟩ := h
  refine ⟨⟨h0, hC, hB, hdeg, by omega, fun n h1 h2 => ?_, fun D L' d0 d1 d2 => hmin D L' d0 d1 (gf_gen_less d2), hb, hb0⟩, ?_⟩
  · by_cases hn : n = k
    · rw [hn]; exact hd
    · exact hg n h1 (by omega)
  · rcases hr with ⟨r1, r2, r3⟩ | ⟨r1, r2, r3, P, r4, r5⟩
    · exact Or.inl ⟨r1, by omega, r3⟩
    · refine Or.inr ⟨r1, by omega, by omega, P, by omega, ?_⟩
      rw [show k + 1 - (m + 1) = k - m by omega]
      exact r5
/-- the recurrence mended by the earlier one -/
def gf_mix (C B : Nat → Nat) (m f : Nat) : Nat → Nat := fun i => C i ^^^ (if i < m then 0 else gf_m f (B (i - m)))
theorem gf_s_shift (n m : Nat) (F : Nat → Nat) : gf_s (n + m) (fun i => if i < m then 0 else F (i - m)) = gf_s n F := by
  induction n with
  | zero => rw [Nat.zero_add]; exact gf_s_zero (fun i hi => if_pos hi)
  | succ n ih => rw [show n + 1 + m = (n + m) + 1 by omega, gf_s, ih, gf_s, if_neg (by omega), Nat.add_sub_cancel]
theorem gf_s_more {n : Nat} {f : Nat → Nat} : ∀ d, (∀ i, n ≤ i → i < n + d → f i = 0) → gf_s (n + d) f = gf_s n f
  | 0, _ => rfl
  | d + 1, h => by rw [← Nat.add_assoc, gf_s, gf_s_more d (fun i h1 h2 => h i h1 (by omega)), h (n + d) (by omega) (by omega), Nat.xor_zero]
theorem gf_s_ext {a b : Nat} {f : Nat → Nat} (hab : a ≤ b) (h : ∀ i, a ≤ i → i < b → f i = 0) : gf_s b f = gf_s a f := by
  obtain ⟨d, rfl⟩ : ∃ d, b = a + d := ⟨b - a, by omega⟩
  exact gf_s_more d h
/-- the mended recurrence's sum at n -/
theorem gf_mix_sum {C B T : Nat → Nat} {L P m f Q n : Nat} (hC : ∀ i, C i < 256) (hB : ∀ i, B i < 256) (hT : ∀ i, T i < 256) (hf : f < 256) (hCd : ∀ i, L < i → C i = 0) (hBd : ∀ i, P < i → B i = 0) (hLQ : L ≤ Q) (hPQ : P + m ≤ Q) :
    gf_s (Q + 1) (fun i => gf_m (gf_mix C B m f i) (T (n - i))) = gf_s (L + 1) (fun i => gf_m (C i) (T (n - i))) ^^^ gf_m f (gf_s (P + 1) (fun i => gf_m (B i) (T (n - m - i)))) := by
  have e1 : gf_s (Q + 1) (fun i => gf_m (gf_mix C B m f i) (T (n - i))) = gf_s (Q + 1) (fun i => gf_m (C i) (T (n - i))) ^^^ gf_s (Q + 1) (fun i => if i < m then 0 else gf_m f (gf_m (B (i - m)) (T (n - m - (i - m))))) := by
    rw [← gf_s_xor]
    refine gf_s_congr (fun i hi => ?_)
    unfold gf_mix
    rw [gf_distrib' (hT _) (hC i) (by split; decide; exact gf_m_lt _ _)]
    by_cases him : i < m
    · rw [if_pos him, if_pos him, gf_m_zero_left]
    · rw [if_neg him, if_neg him, gf_m_assoc hf (hB _) (hT _), show n - m - (i - m) = n - i by omega]
  rw [e1]
  congr 1
  · exact gf_s_ext (by omega) (fun i h1 h2 => by rw [hCd i (by omega), gf_m_zero_left])
  · rw [gf_s_mul hf (fun _ _ => gf_m_lt _ _)]
    rw [gf_s_ext (a := P + 1 + m) (by omega) (fun i h1 h2 => by
      show (if i < m then 0 else gf_m f (gf_m (B (i - m)) (T (n - m - (i - m))))) = 0
      rw [if_neg (by omega), hBd (i - m) (by omega), gf_m_zero_left, gf_m_zero_right])]
    exact gf_s_shift (P + 1) m (fun i => gf_m f (gf_m (B i) (T (n - m - i))))
theorem gf_div {d b : Nat} (hd : d < 256) (hb : b < 256) (h0 : b ≠ 0) : gf_m (gf_m d (gf_inv b)) b = d := by
  rw [gf_m_assoc hd (gf_inv_lt b) hb, gf_m_comm (gf_inv b), gf_m_inv hb h0, gf_m_one hd]
/-- a miss -/
theorem gf_bm_miss {T : Nat → Nat} (hT : ∀ i, T i < 256) {k : Nat} {C B : Nat → Nat} {L m b d : Nat} (h : gf_bm T k C B L m b) (hd : gf_s (L + 1) (fun i => gf_m (C i) (T (k - i))) = d) (hd0 : d ≠ 0) :
    (k < 2 * L → gf_bm T (k + 1) (gf_mix C B m (gf_m d (gf_inv b))) B L (m + 1) b) ∧ (2 * L ≤ k → gf_bm T (k + 1) (gf_mix C B m (gf_m d (gf_inv b))) C (k + 1 - L) 1 d) := by
  obtain ⟨⟨h0, hC, hB, hdeg, hLk, hg, hmin, hb, hb0⟩, hr⟩ := h
  have hdl : d < 256 := by rw [← hd]; exact gf_s_lt (fun _ _ => gf_m_lt _ _)
  have hf : gf_m d (gf_inv b) < 256 := gf_m_lt _ _
  have hm1 : 1 ≤ m := by rcases hr with r | r <;> omega
  have hmix0 : gf_mix C B m (gf_m d (gf_inv b)) 0 = 1 := by
    unfold gf_mix
    rw [if_pos (by omega), h0]
    rfl
  have hmixl : ∀ i, gf_mix C B m (gf_m d (gf_inv b)) i < 256 := fun i => gf_xor_lt (hC i) (by split; decide; exact gf_m_lt _ _)
  have hmas : ∀ D L', D 0 = 1 → (∀ i, D i < 256) → gf_gen D L' T (k + 1) → k + 1 ≤ L + L' := fun D L' d0 d1 d2 => gf_massey hC d1 hT hg (by rw [hd]; exact hd0) d2 d0
  -- the length of the earlier one
  have hP : ∃ P, P + L + m = k + 1 ∧ (∀ i, P < i → B i = 0) ∧ ∀ n, k + 1 - L ≤ n → n < k + 1 → gf_m (gf_m d (gf_inv b)) (gf_s (P + 1) (fun i => gf_m (B i) (T (n - m - i)))) = (if n = k ∧ 0 < L then d else 0) ∨ (L = 0 ∧ k + 1 ≤ n) := by
    rcases hr with ⟨r1, r2, r3, r4, r5⟩ | ⟨r1, r2, r3, P, r4, r5, r6, r7⟩
    · exact ⟨0, by omega, fun i hi => r5 i hi, fun n h1 h2 => Or.inr ⟨r1, by omega⟩⟩
    · refine ⟨P, by omega, r5, fun n h1 h2 => Or.inl ?_⟩
      by_cases hn : n = k
      · subst hn
        rw [if_pos ⟨rfl, r1⟩, r7]
        exact gf_div hdl hb hb0
      · rw [if_neg (fun q => hn q.1), r6 (n - m) (by omega) (by omega), gf_m_zero_right]
  obtain ⟨P, hP1, hP2, hP3⟩ := hP
  have hgen : ∀ Q, L ≤ Q → k + 1 - L ≤ Q → gf_gen (gf_mix C B m (gf_m d (gf_inv b))) Q T (k + 1) := by
    intro Q q1 q2 n n1 n2
    rw [gf_mix_sum hC hB hT hf hdeg hP2 q1 (by omega)]
    rcases hP3 n (by omega) n2 with e | ⟨e1, e2⟩
    · rw [e]
      by_cases hn : n = k
      · subst hn
        rw [hd]
        by_cases hL : 0 < L
        · rw [if_pos ⟨rfl, hL⟩, Nat.xor_self]
        · omega
      · rw [if_neg (fun q => hn q.1), hg n (by omega) (by omega)]
        rfl
    · omega
  have hmdeg : ∀ Q, L ≤ Q → k + 1 - L ≤ Q → ∀ i, Q < i → gf_mix C B m (gf_m d (gf_inv b)) i = 0 := by
    intro Q q1 q2 i hi
    unfold gf_mix
    rw [hdeg i (by omega), Nat.zero_xor]
    split
    · rfl
    · rw [hP2 (i - m) (by omega), gf_m_zero_right]
  constructor
  · intro hk
    refine ⟨⟨hmix0, hmixl, hB, hmdeg L (Nat.le_refl _) (by omega), by omega, hgen L (Nat.le_refl _) (by omega), fun D L' d0 d1 d2 => hmin D L' d0 d1 (gf_gen_less d2), hb, hb0⟩, ?_⟩
    rcases hr with ⟨r1, r2, r3⟩ | ⟨r1, r2, r3, P', r4, r5⟩
    · omega
    · refine Or.inr ⟨r1, by omega, by omega, P', by omega, ?_⟩
      rw [show k + 1 - (m + 1) = k - m by omega]
      exact r5
  · intro hk
    refine ⟨⟨hmix0, hmixl, hC, hmdeg (k + 1 - L) (by omega) (Nat.le_refl _), by omega, hgen (k + 1 - L) (by omega) (Nat.le_refl _), fun D L' d0 d1 d2 => by have := hmas D L' d0 d1 d2; omega, hdl, hd0⟩, Or.inr ⟨by omega, Nat.le_refl _, by omega, L, by omega, hdeg, ?_⟩⟩
    rw [show k + 1 - 1 = k by omega]
    exact ⟨hg, hd⟩
