/-! sums over the field, counting, Vandermonde -/
def gf_s : Nat → (Nat → Nat) → Nat
  | 0, _ => 0
  | n + 1, f => gf_s n f ^^^ f n
theorem gf_s_lt {n : Nat} {f : Nat → Nat} (h : ∀ i, i < n → f i < 256) : gf_s n f < 256 := by
  induction n with
  | zero => exact (by decide : (0 : Nat) < 256)
  | succ n ih => exact gf_xor_lt (ih (fun i hi => h i (by omega))) (h n (by omega))
theorem gf_s_congr {n : Nat} {f g : Nat → Nat} (h : ∀ i, i < n → f i = g i) : gf_s n f = gf_s n g := by
  induction n with
  | zero => rfl
  | succ n ih => rw [gf_s, gf_s, ih (fun i hi => h i (by omega)), h n (by omega)]
theorem gf_s_zero {n : Nat} {f : Nat → Nat} (h : ∀ i, i < n → f i = 0) : gf_s n f = 0 := by
  induction n with
  | zero => rfl
  | succ n ih => rw [gf_s, ih (fun i hi => h i (by omega)), h n (by omega)]; rfl
theorem gf_x4 (a b c d : Nat) : (a ^^^ b) ^^^ (c ^^^ d) = (a ^^^ c) ^^^ (b ^^^ d) := by
  rw [Nat.xor_assoc, Nat.xor_assoc, ← Nat.xor_assoc b c d, Nat.xor_comm b c, Nat.xor_assoc c b d]
theorem gf_s_xor (n : Nat) (f g : Nat → Nat) : gf_s n (fun i => f i ^^^ g i) = gf_s n f ^^^ gf_s n g := by
  induction n with
  | zero => simp [gf_s]
  | succ n ih => rw [gf_s, gf_s, gf_s, ih, gf_x4]
theorem gf_s_mul {n a : Nat} {f : Nat → Nat} (ha : a < 256) (h : ∀ i, i < n → f i < 256) : gf_m a (gf_s n f) = gf_s n (fun i => gf_m a (f i)) := by
  induction n with
  | zero => exact gf_m_zero_right a
  | succ n ih => rw [gf_s, gf_s, gf_distrib ha (gf_s_lt (fun i hi => h i (by omega))) (h n (by omega)), ih (fun i hi => h i (by omega))]
theorem gf_s_one {n : Nat} {f : Nat → Nat} {i0 : Nat} (hi : i0 < n) (h : ∀ i, i < n → i ≠ i0 → f i = 0) : gf_s n f = f i0 := by
  induction n with
  | zero => omega
  | succ n ih =>
    rw [gf_s]
    by_cases h0 : i0 = n
    · subst h0
      rw [gf_s_zero (fun i hi => h i (by omega) (by omega)), Nat.zero_xor]
    · rw [ih (by omega) (fun i hi => h i (by omega)), h n (by omega) (by omega), Nat.xor_zero]
theorem gf_s_swap (n m : Nat) (f : Nat → Nat → Nat) : gf_s n (fun i => gf_s m (fun j => f i j)) = gf_s m (fun j => gf_s n (fun i => f i j)) := by
  induction n with
  | zero => exact (gf_s_zero (fun _ _ => rfl)).symm
  | succ n ih =>
    rw [gf_s, ih, ← gf_s_xor]
    exact gf_s_congr (fun _ _ => rfl)
theorem gf_s_first (n : Nat) (f : Nat → Nat) : gf_s (n + 1) f = f 0 ^^^ gf_s n (fun i => f (i + 1)) := by
  induction n with
  | zero => simp [gf_s]
  | succ n ih => rw [gf_s, ih, gf_s, Nat.xor_assoc]
def gf_cn : Nat → (Nat → Bool) → Nat
  | 0, _ => 0
  | n + 1, p => gf_cn n p + (if p n then 1 else 0)
theorem gf_cn_le {n : Nat} {p q : Nat → Bool} (h : ∀ i, i < n → p i = true → q i = true) : gf_cn n p ≤ gf_cn n q := by
  induction n with
  | zero => exact Nat.le_refl _
  | succ n ih =>
    have h1 := ih (fun i hi => h i (by omega))
    have h2 := h n (by omega)
    simp only [gf_cn]
    cases hp : p n <;> cases hq : q n <;> simp_all <;> omega
theorem gf_cn_congr {n : Nat} {p q : Nat → Bool} (h : ∀ i, i < n → p i = q i) : gf_cn n p = gf_cn n q := by
  induction n with
  | zero => rfl
  | succ n ih => rw [gf_cn, gf_cn, ih (fun i hi => h i (by omega)), h n (by omega)]
theorem gf_cn_lt {n : Nat} {p q : Nat → Bool} (h : ∀ i, i < n → p i = true → q i = true) {i0 : Nat} (hi : i0 < n) (hp : p i0 = false) (hq : q i0 = true) : gf_cn n p + 1 ≤ gf_cn n q := by
  induction n with
  | zero => omega
  | succ n ih =>
    simp only [gf_cn]
    by_cases h0 : i0 = n
    · subst h0
      have := gf_cn_le (n := i0) (fun i hi => h i (by omega))
      rw [hp, hq]
      simp
      omega
    · have h1 := ih (fun i hi => h i (by omega)) (by omega)
      have h2 := h n (by omega)
      cases hp : p n <;> cases hq : q n <;> simp_all <;> omega
theorem gf_cn_zero {n : Nat} {p : Nat → Bool} (h : gf_cn n p = 0) : ∀ i, i < n → p i = false := by
  induction n with
  | zero => intro i hi; omega
  | succ n ih =>
    intro i hi
    simp only [gf_cn] at h
    by_cases h0 : i = n
    · subst h0
      cases hp : p i
      · rfl
      · rw [hp] at h; simp at h
    · exact ih (by omega) i (by omega)
theorem gf_cn_or (n : Nat) (p q : Nat → Bool) : gf_cn n (fun i => p i || q i) ≤ gf_cn n p + gf_cn n q := by
  induction n with
  | zero => exact Nat.le_refl _
  | succ n ih =>
    simp only [gf_cn]
    have hb : ∀ a b : Bool, (if (a || b) = true then 1 else 0) ≤ (if a = true then 1 else 0) + (if b = true then 1 else 0) := by decide
    have := hb (p n) (q n)
    omega
/-- the sums of a word -/
def gf_sy (c : Nat → Nat) (j : Nat) : Nat := gf_s 16 (fun s => gf_m (c s) (gf_ex (j * s)))
theorem gf_sy_lt (c : Nat → Nat) (j : Nat) : gf_sy c j < 256 := gf_s_lt (fun _ _ => gf_m_lt _ _)
theorem gf_sy_xor {c e : Nat → Nat} (hc : ∀ s, s < 16 → c s < 256) (he : ∀ s, s < 16 → e s < 256) (j : Nat) : gf_sy (fun s => c s ^^^ e s) j = gf_sy c j ^^^ gf_sy e j := by
  unfold gf_sy
  rw [← gf_s_xor]
  exact gf_s_congr (fun s hs => gf_distrib' (gf_ex_pos _).2 (hc s hs) (he s hs))
theorem gf_ex_ne {s t : Nat} (hs : s < 255) (ht : t < 255) (h : s ≠ t) : gf_ex s ^^^ gf_ex t ≠ 0 := by
  intro q
  have h1 : gf_ex s = gf_ex t := by
    have h2 := congrArg (fun z => z ^^^ gf_ex t) q
    simp only [Nat.xor_assoc, Nat.xor_self, Nat.xor_zero, Nat.zero_xor] at h2
    exact h2
  have h3 := gf_ex_inj h1
  rw [Nat.mod_eq_of_lt hs, Nat.mod_eq_of_lt ht] at h3
  exact h h3
theorem gf_sy_step {e : Nat → Nat} (he : ∀ s, s < 16 → e s < 256) (x j : Nat) (hx : x < 256) : gf_sy (fun s => gf_m (e s) (gf_ex s ^^^ x)) j = gf_sy e (j + 1) ^^^ gf_m x (gf_sy e j) := by
  unfold gf_sy
  rw [gf_s_mul hx (fun _ _ => gf_m_lt _ _), ← gf_s_xor]
  refine gf_s_congr (fun s hs => ?_)
  have h1 := he s hs
  have h2 := (gf_ex_pos s).2
  have h3 := (gf_ex_pos (j * s)).2
  show gf_m (gf_m (e s) (gf_ex s ^^^ x)) (gf_ex (j * s)) = _
  rw [gf_distrib h1 h2 hx, gf_distrib' h3 (gf_m_lt _ _) (gf_m_lt _ _), gf_m_assoc h1 h2 h3, gf_ex_add, gf_m_comm (e s) x, gf_m_assoc hx h1 h3, show s + j * s = (j + 1) * s by rw [Nat.add_mul]; omega]
/-- a word that is not 0 at n places at most, with n sums 0, is 0 -/
theorem gf_vd : ∀ (n : Nat) (e : Nat → Nat), (∀ s, s < 16 → e s < 256) → gf_cn 16 (fun s => e s != 0) ≤ n → (∀ j, j < n → gf_sy e j = 0) → ∀ s, s < 16 → e s = 0
  | 0, e, _, hc, _ => by
    intro s hs
    have := gf_cn_zero (p := fun s => e s != 0) (by omega) s hs
    simpa using this
  | n + 1, e, he, hc, hj => by
    intro s1 hs1
    refine Classical.byContradiction fun hne => ?_
    have hx := (gf_ex_pos s1).2
    have h1 : ∀ s, s < 16 → gf_m (e s) (gf_ex s ^^^ gf_ex s1) = 0 := by
      refine gf_vd n (fun s => gf_m (e s) (gf_ex s ^^^ gf_ex s1)) (fun s _ => gf_m_lt _ _) ?_ (fun j hj2 => ?_)
      · have := gf_cn_lt (n := 16) (p := fun s => gf_m (e s) (gf_ex s ^^^ gf_ex s1) != 0) (q := fun s => e s != 0) (fun i _ hp => ?_) hs1 (by simp [gf_m_zero_right]) (by simpa using hne)
        · omega
        · simp only [bne_iff_ne, ne_eq] at hp ⊢
          intro q
          exact hp (by rw [q, gf_m_zero_left])
      · rw [gf_sy_step he _ _ hx, hj (j + 1) (by omega), hj j (by omega), gf_m_zero_right]
        rfl
    have h2 : ∀ s, s < 16 → s ≠ s1 → e s = 0 := by
      intro s hs hs2
      rcases gf_m_eq_zero.mp (h1 s hs) with h | h
      · exact h
      · exact absurd h (gf_ex_ne (by omega) (by omega) hs2)
    have h3 := hj 0 (by omega)
    unfold gf_sy at h3
    rw [gf_s_one hs1 (fun s hs hs2 => by rw [h2 s hs hs2, gf_m_zero_left])] at h3
    rw [Nat.zero_mul] at h3
    rcases gf_m_eq_zero.mp h3 with h | h
    · exact hne h
    · have := (gf_ex_pos 0).1
      omega
/-- the word that a column is mended to: sums 0, and near enough -/
def gf_md (c : Nat → Nat) (M : Nat → Bool) (w : Nat → Nat) : Prop := (∀ s, s < 16 → w s < 256) ∧ (∀ j, j < 6 → gf_sy w j = 0) ∧ 2 * gf_cn 16 (fun s => !M s && (w s != c s)) + gf_cn 16 M ≤ 6
theorem gf_md_one {c : Nat → Nat} {M : Nat → Bool} {w v : Nat → Nat} (hw : gf_md c M w) (hv : gf_md c M v) : ∀ s, s < 16 → w s = v s := by
  obtain ⟨w1, w2, w3⟩ := hw
  obtain ⟨v1, v2, v3⟩ := hv
  have h := gf_vd 6 (fun s => w s ^^^ v s) (fun s hs => gf_xor_lt (w1 s hs) (v1 s hs)) ?_ (fun j hj => by rw [gf_sy_xor w1 v1, w2 j hj, v2 j hj]; rfl)
  · intro s hs
    have h1 := congrArg (fun z => z ^^^ v s) (h s hs)
    simp only [Nat.xor_assoc, Nat.xor_self, Nat.xor_zero, Nat.zero_xor] at h1
    exact h1
  · have a1 := gf_cn_le (n := 16) (p := fun s => (w s ^^^ v s) != 0) (q := fun s => M s || ((!M s && (w s != c s)) || (!M s && (v s != c s)))) (fun s _ hp => by
      cases hM : M s
      · simp only [Bool.not_false, Bool.true_and, Bool.false_or, Bool.or_eq_true, bne_iff_ne, ne_eq] at hp ⊢
        by_cases e1 : w s = c s
        · refine Or.inr fun e2 => hp ?_
          rw [e1, e2, Nat.xor_self]
        · exact Or.inl e1
      · simp)
    have a2 := gf_cn_or 16 M (fun s => (!M s && (w s != c s)) || (!M s && (v s != c s)))
    have a3 := gf_cn_or 16 (fun s => !M s && (w s != c s)) (fun s => !M s && (v s != c s))
    omega
