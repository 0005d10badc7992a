/-! the mending: the search's answer against the word that is near enough -/
def gf_ul (p : Nat → Bool) : Nat → List Nat
  | 0 => []
  | n + 1 => if p n then n :: gf_ul p n else gf_ul p n
theorem gf_ul_mem (p : Nat → Bool) : ∀ (n s : Nat), s ∈ gf_ul p n ↔ s < n ∧ p s = true
  | 0, s => by simp [gf_ul]
  | n + 1, s => by
    rw [gf_ul]
    by_cases hp : p n = true
    · rw [if_pos hp, List.mem_cons, gf_ul_mem p n]
      constructor
      · rintro (rfl | ⟨h1, h2⟩)
        · exact ⟨by omega, hp⟩
        · exact ⟨by omega, h2⟩
      · rintro ⟨h1, h2⟩
        by_cases hs : s = n
        · exact Or.inl hs
        · exact Or.inr ⟨by omega, h2⟩
    · rw [if_neg hp, gf_ul_mem p n]
      constructor
      · rintro ⟨h1, h2⟩; exact ⟨by omega, h2⟩
      · rintro ⟨h1, h2⟩
        refine ⟨?_, h2⟩
        have : s ≠ n := fun e => hp (by rw [← e]; exact h2)
        omega
theorem gf_ul_len (p : Nat → Bool) : ∀ n, (gf_ul p n).length = gf_cn n p
  | 0 => rfl
  | n + 1 => by
    rw [gf_ul, gf_cn]
    split
    · rw [List.length_cons, gf_ul_len p n]
    · rw [gf_ul_len p n]; rfl
theorem gf_ul_nodup (p : Nat → Bool) : ∀ n, (gf_ul p n).Nodup
  | 0 => List.nodup_nil
  | n + 1 => by
    rw [gf_ul]
    split
    · refine List.nodup_cons.mpr ⟨fun h => ?_, gf_ul_nodup p n⟩
      have := ((gf_ul_mem p n n).mp h).1
      omega
    · exact gf_ul_nodup p n
theorem gf_ul_congr {p q : Nat → Bool} : ∀ n, (∀ i, i < n → p i = q i) → gf_ul p n = gf_ul q n
  | 0, _ => rfl
  | n + 1, h => by rw [gf_ul, gf_ul, h n (by omega), gf_ul_congr n (fun i hi => h i (by omega))]
theorem gf_ul_erase (p : Nat → Bool) (s : Nat) : ∀ n, (gf_ul p n).erase s = gf_ul (fun i => p i && i != s) n
  | 0 => rfl
  | n + 1 => by
    rw [gf_ul, gf_ul]
    by_cases hp : p n = true
    · rw [if_pos hp]
      by_cases hs : n = s
      · subst hs
        rw [List.erase_cons_head, if_neg (by simp)]
        rw [← gf_ul_erase p n n]
        exact (List.erase_of_not_mem (fun h => by have := ((gf_ul_mem p n n).mp h).1; omega)).symm
      · rw [List.erase_cons_tail (by simpa using hs), gf_ul_erase p s n, if_pos (by simp [hp, hs])]
    · rw [if_neg hp, if_neg (by simp [hp]), gf_ul_erase p s n]
theorem gf_xeq {a b : Nat} (h : a ^^^ b = 0) : a = b := by
  have h1 := congrArg (fun z => z ^^^ b) h
  simp only [Nat.xor_assoc, Nat.xor_self, Nat.xor_zero, Nat.zero_xor] at h1
  exact h1
/-- as many differences 0 as there are places: the sequence is 0 -/
theorem gf_dl_inj : ∀ (l : List Nat) {S : Nat → Nat}, (∀ j, S j < 256) → l.Nodup → (∀ t ∈ l, t < 16) → (∀ s ∈ l, gf_dl (l.erase s) S 0 = 0) → ∀ j, j < l.length → S j = 0
  | [], _, _, _, _, _ => fun j hj => by simp at hj
  | t :: l, S, hS, hn, hl, h => by
    obtain ⟨hn1, hn2⟩ := List.nodup_cons.mp hn
    have ht := hl t List.mem_cons_self
    have hl' : ∀ t ∈ l, t < 16 := fun t ht => hl t (List.mem_cons_of_mem _ ht)
    have h1 := gf_dl_inj l (S := gf_dq (gf_ex t) S) (gf_dq_lt hS) hn2 hl' (fun s hs => by
      have h2 := h s (List.mem_cons_of_mem _ hs)
      rw [List.erase_cons_tail (by simp; exact fun e => hn1 (by rw [e]; exact hs))] at h2
      exact h2)
    have h2 : ∀ j, j ≤ l.length → S j = gf_m (S 0) (gf_ex (j * t)) := by
      intro j
      induction j with
      | zero => intro _; rw [Nat.zero_mul]; exact (gf_m_one (hS 0)).symm
      | succ j ih =>
        intro hj
        have a := gf_xeq (h1 j (by omega))
        rw [a, ih (by omega), ← gf_m_assoc (gf_ex_pos t).2 (hS 0) (gf_ex_pos _).2, gf_m_comm (gf_ex t), gf_m_assoc (hS 0) (gf_ex_pos t).2 (gf_ex_pos _).2, gf_ex_add, show t + j * t = (j + 1) * t by rw [Nat.add_mul]; omega]
    have h3 := h t List.mem_cons_self
    rw [List.erase_cons_head] at h3
    have he : ∀ s, s < 16 → (fun s => if s = t then S 0 else 0) s < 256 := fun s _ => by
      show (if s = t then S 0 else 0) < 256
      split
      · exact hS 0
      · decide
    have h4 : ∀ j, gf_sy (fun s => if s = t then S 0 else 0) j = gf_m (S 0) (gf_ex (j * t)) := by
      intro j
      unfold gf_sy
      rw [gf_s_one ht (fun s hs hst => by show gf_m (if s = t then S 0 else 0) _ = 0; rw [if_neg hst, gf_m_zero_left])]
      show gf_m (if t = t then S 0 else 0) _ = _
      rw [if_pos rfl]
    rw [gf_dl_congr l (S' := gf_sy (fun s => if s = t then S 0 else 0)) (fun i hi => by rw [Nat.zero_add, h2 i hi, h4])] at h3
    rw [gf_dl_sy l he] at h3
    unfold gf_sy at h3
    rw [gf_s_one ht (fun s hs hst => by show gf_m (gf_m (if s = t then S 0 else 0) _) _ = 0; rw [if_neg hst, gf_m_zero_left, gf_m_zero_left])] at h3
    have h5 : S 0 = 0 := by
      rcases gf_m_eq_zero.mp h3 with q | q
      · rcases gf_m_eq_zero.mp q with q | q
        · rw [if_pos rfl] at q; exact q
        · exact absurd q (gf_pr_ne ht hl' hn1)
      · have := (gf_ex_pos (0 * t)).1
        omega
    intro j hj
    rw [h2 j (by simp at hj; omega), h5, gf_m_zero_left]
/-- the mended word: at each unknown place the sums, weighed -/
def gf_fix (c : Nat → Nat) (U : Nat → Bool) : Nat → Nat := fun s =>
  if U s then gf_m (gf_dl (gf_ul (fun i => U i && i != s) 16) (gf_sy c) 0) (gf_inv (gf_pr (gf_ul (fun i => U i && i != s) 16) (gf_ex s))) else 0
theorem gf_fix_lt (c : Nat → Nat) (U : Nat → Bool) (s : Nat) : gf_fix c U s < 256 := by
  unfold gf_fix
  split
  · exact gf_m_lt _ _
  · decide
theorem gf_fix_out {c : Nat → Nat} {U : Nat → Bool} {s : Nat} (h : U s = false) : gf_fix c U s = 0 := by
  unfold gf_fix
  rw [if_neg (by rw [h]; decide)]
/-- the first sums of the mended word are 0 -/
theorem gf_fix_first {c : Nat → Nat} (hc : ∀ s, s < 16 → c s < 256) (U : Nat → Bool) : ∀ j, j < gf_cn 16 U → gf_sy (fun s => c s ^^^ gf_fix c U s) j = 0 := by
  have hfl : ∀ s, s < 16 → gf_fix c U s < 256 := fun s _ => gf_fix_lt c U s
  intro j hj
  rw [← gf_ul_len] at hj
  refine gf_dl_inj (gf_ul U 16) (gf_sy_lt _) (gf_ul_nodup U 16) (fun t ht => ((gf_ul_mem U 16 t).mp ht).1) (fun s hs => ?_) j hj
  obtain ⟨hs1, hs2⟩ := (gf_ul_mem U 16 s).mp hs
  have e1 : gf_sy (fun s => c s ^^^ gf_fix c U s) = fun j => gf_sy c j ^^^ gf_sy (gf_fix c U) j := by
    funext j
    exact gf_sy_xor hc hfl j
  rw [gf_ul_erase, e1, gf_dl_xor _ (gf_sy_lt _) (gf_sy_lt _), gf_dl_sy _ hfl]
  have e2 : gf_sy (fun t => gf_m (gf_fix c U t) (gf_pr (gf_ul (fun i => U i && i != s) 16) (gf_ex t))) 0 = gf_m (gf_fix c U s) (gf_pr (gf_ul (fun i => U i && i != s) 16) (gf_ex s)) := by
    unfold gf_sy
    rw [gf_s_one hs1 (fun t ht hts => ?_)]
    · rw [Nat.zero_mul]
      exact gf_m_one (gf_m_lt _ _)
    · dsimp only
      cases hU : U t
      · rw [gf_fix_out hU, gf_m_zero_left, gf_m_zero_left]
      · rw [gf_pr_zero ((gf_ul_mem _ 16 t).mpr ⟨ht, by simp [hU, hts]⟩), gf_m_zero_right, gf_m_zero_left]
  rw [e2]
  have hne : gf_pr (gf_ul (fun i => U i && i != s) 16) (gf_ex s) ≠ 0 := gf_pr_ne hs1 (fun t ht => ((gf_ul_mem _ 16 t).mp ht).1) (fun h => by have := ((gf_ul_mem _ 16 s).mp h).2; simp at this)
  unfold gf_fix
  rw [if_pos hs2, gf_div (gf_dl_lt _ (gf_sy_lt _) _) (gf_pr_lt _ _) hne, Nat.xor_self]
/-- what the search of the places marks -/
def gf_mk (M : Nat → Bool) (C : Nat → Nat) (L : Nat) : Nat → Bool := fun s => M s || (gf_ho C L (gf_ex s) == 0)
theorem gf_cn_split (n : Nat) (M q : Nat → Bool) : gf_cn n (fun s => M s || q s) = gf_cn n M + gf_cn n (fun s => !M s && q s) := by
  induction n with
  | zero => rfl
  | succ n ih =>
    simp only [gf_cn]
    rw [ih]
    have hb : ∀ a b : Bool, (if (a || b) = true then 1 else 0) = (if a = true then 1 else 0) + (if (!a && b) = true then 1 else 0) := by decide
    have := hb (M n) (q n)
    omega
/-- where the search finds as many places as the recurrence is long, the mended word has sums 0 and is near enough -/
theorem gf_mendA {c : Nat → Nat} (hc : ∀ s, s < 16 → c s < 256) {M : Nat → Bool} {C B : Nat → Nat} {L m b : Nat} (hg : gf_cn 16 M ≤ 6) (hbm : gf_bm (gf_dl (gf_ul M 16) (gf_sy c)) (6 - gf_cn 16 M) C B L m b) (h2 : 2 * L ≤ 6 - gf_cn 16 M) (hr : gf_cn 16 (fun s => !M s && (gf_ho C L (gf_ex s) == 0)) = L) :
    gf_md c M (fun s => c s ^^^ gf_fix c (gf_mk M C L) s) := by
  obtain ⟨⟨h0, hC, hB, hdeg, hLk, hgen, hmin, hb, hb0⟩, -⟩ := hbm
  have hfl : ∀ s, s < 16 → gf_fix c (gf_mk M C L) s < 256 := fun s _ => gf_fix_lt _ _ s
  have hU : gf_cn 16 (gf_mk M C L) = gf_cn 16 M + L := by
    have := gf_cn_split 16 M (fun s => gf_ho C L (gf_ex s) == 0)
    rw [hr] at this
    exact this
  refine ⟨fun s hs => gf_xor_lt (hc s hs) (hfl s hs), ?_, ?_⟩
  · have hS0 := gf_fix_first hc (gf_mk M C L)
    rw [hU] at hS0
    have e1 : gf_sy (fun s => c s ^^^ gf_fix c (gf_mk M C L) s) = fun j => gf_sy c j ^^^ gf_sy (gf_fix c (gf_mk M C L)) j := by
      funext j
      exact gf_sy_xor hc hfl j
    -- the sifted sums of the mended word
    have hT0 : ∀ j, j < L → gf_dl (gf_ul M 16) (gf_sy (fun s => c s ^^^ gf_fix c (gf_mk M C L) s)) j = 0 := by
      intro j hj
      rw [gf_dl_congr _ (S' := fun _ => 0) (fun i hi => hS0 (j + i) (by rw [gf_ul_len] at hi; omega))]
      have e2 : (fun _ : Nat => 0) = gf_sy (fun _ => 0) := by
        funext j
        exact (gf_s_zero (fun _ _ => gf_m_zero_left _)).symm
      rw [e2, gf_dl_sy _ (fun _ _ => by decide)]
      exact gf_s_zero (fun _ _ => by dsimp only; rw [gf_m_zero_left, gf_m_zero_left])
    have hT1 : ∀ n, L ≤ n → n < 6 - gf_cn 16 M → gf_s (L + 1) (fun i => gf_m (C i) (gf_dl (gf_ul M 16) (gf_sy (fun s => c s ^^^ gf_fix c (gf_mk M C L) s)) (n - i))) = 0 := by
      intro n n1 n2
      have e3 : gf_s (L + 1) (fun i => gf_m (C i) (gf_dl (gf_ul M 16) (gf_sy (fun s => c s ^^^ gf_fix c (gf_mk M C L) s)) (n - i))) = gf_s (L + 1) (fun i => gf_m (C i) (gf_dl (gf_ul M 16) (gf_sy c) (n - i))) ^^^ gf_s (L + 1) (fun i => gf_m (C i) (gf_sy (fun s => gf_m (gf_fix c (gf_mk M C L) s) (gf_pr (gf_ul M 16) (gf_ex s))) (n - i))) := by
        rw [← gf_s_xor]
        refine gf_s_congr (fun i hi => ?_)
        rw [e1, gf_dl_xor _ (gf_sy_lt _) (gf_sy_lt _), gf_dl_sy _ hfl, gf_distrib (hC i) (gf_dl_lt _ (gf_sy_lt _) _) (gf_sy_lt _ _)]
      rw [e3, hgen n n1 n2, Nat.zero_xor, gf_rec_sy hC (fun _ _ => gf_m_lt _ _) n1]
      refine gf_s_zero (fun s hs => ?_)
      have : gf_m (gf_m (gf_fix c (gf_mk M C L) s) (gf_pr (gf_ul M 16) (gf_ex s))) (gf_ho C L (gf_ex s)) = 0 := by
        cases hM : M s
        · by_cases hq : gf_ho C L (gf_ex s) = 0
          · rw [hq, gf_m_zero_right]
          · rw [gf_fix_out (by simp [gf_mk, hM, hq]), gf_m_zero_left, gf_m_zero_left]
        · rw [gf_pr_zero ((gf_ul_mem M 16 s).mpr ⟨hs, hM⟩), gf_m_zero_right, gf_m_zero_left]
      dsimp only
      rw [this, gf_m_zero_left]
    have hT2 : ∀ n, n < 6 - gf_cn 16 M → gf_dl (gf_ul M 16) (gf_sy (fun s => c s ^^^ gf_fix c (gf_mk M C L) s)) n = 0 := by
      intro n
      induction n using Nat.strongRecOn with
      | _ n ih =>
        intro hn
        by_cases hnL : n < L
        · exact hT0 n hnL
        · have a := hT1 n (by omega) hn
          rw [gf_s_first, gf_s_zero (fun i hi => by rw [ih (n - (i + 1)) (by omega) (by omega), gf_m_zero_right]), Nat.xor_zero, h0, Nat.sub_zero, gf_one_m (gf_dl_lt _ (gf_sy_lt _) _)] at a
          exact a
    exact gf_dl_all (gf_ul M 16) (N := 6) (fun j hj => hT2 j (by rw [gf_ul_len] at hj; omega)) (fun i hi => hS0 i (by rw [gf_ul_len] at hi; omega))
  · have : gf_cn 16 (fun s => !M s && ((c s ^^^ gf_fix c (gf_mk M C L) s) != c s)) ≤ gf_cn 16 (fun s => !M s && (gf_ho C L (gf_ex s) == 0)) := by
      refine gf_cn_le (fun s hs h => ?_)
      simp only [Bool.and_eq_true, Bool.not_eq_true', bne_iff_ne, ne_eq, beq_iff_eq] at h ⊢
      refine ⟨h.1, Classical.byContradiction fun hq => h.2 ?_⟩
      rw [gf_fix_out (by simp [gf_mk, h.1, hq]), Nat.xor_zero]
    dsimp only
    omega
theorem gf_s_rev (n : Nat) (F : Nat → Nat) : gf_s (n + 1) (fun i => F (n - i)) = gf_s (n + 1) F := by
  induction n with
  | zero => rfl
  | succ n ih =>
    rw [gf_s_first, show gf_s (n + 1 + 1) F = gf_s (n + 1) F ^^^ F (n + 1) from rfl, Nat.sub_zero, Nat.xor_comm, ← ih]
    congr 1
    exact gf_s_congr (fun i hi => by rw [show n + 1 - (i + 1) = n - i by omega])
/-- where a near word is there, the search finds it -/
theorem gf_mendB {c w : Nat → Nat} (hc : ∀ s, s < 16 → c s < 256) {M : Nat → Bool} {C B : Nat → Nat} {L m b : Nat} (hbm : gf_bm (gf_dl (gf_ul M 16) (gf_sy c)) (6 - gf_cn 16 M) C B L m b) (hw : gf_md c M w) :
    2 * L ≤ 6 - gf_cn 16 M ∧ gf_cn 16 (fun s => !M s && (gf_ho C L (gf_ex s) == 0)) = L := by
  obtain ⟨⟨h0, hC, hB, hdeg, hLk, hgen, hmin, hb, hb0⟩, -⟩ := hbm
  obtain ⟨w1, w2, w3⟩ := hw
  have hel : ∀ s, s < 16 → c s ^^^ w s < 256 := fun s hs => gf_xor_lt (hc s hs) (w1 s hs)
  have hfl : ∀ s, s < 16 → gf_m (c s ^^^ w s) (gf_pr (gf_ul M 16) (gf_ex s)) < 256 := fun s _ => gf_m_lt _ _
  -- the sifted sums
  have hT : ∀ j, j < 6 - gf_cn 16 M → gf_dl (gf_ul M 16) (gf_sy c) j = gf_sy (fun s => gf_m (c s ^^^ w s) (gf_pr (gf_ul M 16) (gf_ex s))) j := by
    intro j hj
    rw [← gf_dl_sy _ hel]
    refine gf_dl_congr _ (fun i hi => ?_)
    rw [gf_ul_len] at hi
    rw [gf_sy_xor hc w1, w2 (j + i) (by omega), Nat.xor_zero]
  generalize hR : (fun s => !M s && (w s != c s)) = R at w3
  have hf0 : ∀ s, s < 16 → R s = false → gf_m (c s ^^^ w s) (gf_pr (gf_ul M 16) (gf_ex s)) = 0 := by
    intro s hs h
    rw [← hR] at h
    cases hM : M s
    · have : w s = c s := by simpa [hM] using h
      rw [this, Nat.xor_self, gf_m_zero_left]
    · rw [gf_pr_zero ((gf_ul_mem M 16 s).mpr ⟨hs, hM⟩), gf_m_zero_right]
  have hf1 : ∀ s, s < 16 → R s = true → gf_m (c s ^^^ w s) (gf_pr (gf_ul M 16) (gf_ex s)) ≠ 0 := by
    intro s hs h q
    rw [← hR] at h
    simp only [Bool.and_eq_true, Bool.not_eq_true', bne_iff_ne, ne_eq] at h
    rcases gf_m_eq_zero.mp q with q | q
    · exact h.2 (gf_xeq q).symm
    · exact gf_pr_ne hs (fun t ht => ((gf_ul_mem M 16 t).mp ht).1) (fun q => by have := ((gf_ul_mem M 16 s).mp q).2; rw [h.1] at this; cases this) q
  -- a recurrence as long as there are wrong strands
  have hLt : L ≤ gf_cn 16 R := by
    have hlen := gf_ul_len R 16
    have hD0 : gf_pc (gf_ul R 16) (gf_cn 16 R - 0) = 1 := by rw [Nat.sub_zero, ← hlen]; exact (gf_pc_top _).1
    refine hmin (fun i => gf_pc (gf_ul R 16) (gf_cn 16 R - i)) (gf_cn 16 R) hD0 (fun i => gf_pc_lt _ _) (fun n n1 n2 => ?_)
    have e1 : gf_s (gf_cn 16 R + 1) (fun i => gf_m (gf_pc (gf_ul R 16) (gf_cn 16 R - i)) (gf_dl (gf_ul M 16) (gf_sy c) (n - i))) = gf_s (gf_cn 16 R + 1) (fun i => gf_m (gf_pc (gf_ul R 16) i) (gf_dl (gf_ul M 16) (gf_sy c) ((n - gf_cn 16 R) + i))) := by
      rw [← gf_s_rev (gf_cn 16 R) (fun i => gf_m (gf_pc (gf_ul R 16) i) (gf_dl (gf_ul M 16) (gf_sy c) ((n - gf_cn 16 R) + i)))]
      exact gf_s_congr (fun i hi => by rw [show n - gf_cn 16 R + (gf_cn 16 R - i) = n - i by omega])
    rw [e1, ← hlen, gf_wg _ (gf_dl_lt _ (gf_sy_lt _))]
    rw [gf_dl_congr _ (S' := gf_sy (fun s => gf_m (c s ^^^ w s) (gf_pr (gf_ul M 16) (gf_ex s)))) (fun i hi => hT _ (by omega)), gf_dl_sy _ hfl]
    refine gf_s_zero (fun s hs => ?_)
    dsimp only
    cases hRs : R s
    · rw [hf0 s hs hRs, gf_m_zero_left, gf_m_zero_left]
    · rw [gf_pr_zero ((gf_ul_mem R 16 s).mpr ⟨hs, hRs⟩), gf_m_zero_right, gf_m_zero_left]
  -- its roots
  have hroot : ∀ s, s < 16 → R s = true → gf_ho C L (gf_ex s) = 0 := by
    have hv := gf_vd (6 - gf_cn 16 M - L) (fun s => gf_m (gf_m (c s ^^^ w s) (gf_pr (gf_ul M 16) (gf_ex s))) (gf_ho C L (gf_ex s))) (fun s _ => gf_m_lt _ _) ?_ (fun j hj => ?_)
    · intro s hs hRs
      rcases gf_m_eq_zero.mp (hv s hs) with q | q
      · exact absurd q (hf1 s hs hRs)
      · exact q
    · have a := gf_cn_le (n := 16) (p := fun s => gf_m (gf_m (c s ^^^ w s) (gf_pr (gf_ul M 16) (gf_ex s))) (gf_ho C L (gf_ex s)) != 0) (q := R) (fun s hs h => by
        cases hRs : R s
        · simp only [bne_iff_ne, ne_eq] at h
          exact absurd (by rw [hf0 s hs hRs, gf_m_zero_left]) h
        · rfl)
      omega
    · have a := hgen (j + L) (by omega) (by omega)
      have e1 : gf_s (L + 1) (fun i => gf_m (C i) (gf_dl (gf_ul M 16) (gf_sy c) (j + L - i))) = gf_s (L + 1) (fun i => gf_m (C i) (gf_sy (fun s => gf_m (c s ^^^ w s) (gf_pr (gf_ul M 16) (gf_ex s))) (j + L - i))) :=
        gf_s_congr (fun i hi => by rw [hT _ (by omega)])
      rw [e1, gf_rec_sy hC hfl (by omega), Nat.add_sub_cancel] at a
      exact a
  have b1 := gf_roots L hC (by rw [h0]; decide)
  have b2 := gf_cn_le (n := 16) (p := fun s => !M s && (gf_ho C L (gf_ex s) == 0)) (q := fun s => gf_ho C L (gf_ex s) == 0) (fun s _ h => by simp at h ⊢; exact h.2)
  have b3 := gf_cn_le (n := 16) (p := R) (q := fun s => !M s && (gf_ho C L (gf_ex s) == 0)) (fun s hs h => by
    have h' := h
    rw [← hR] at h'
    simp only [Bool.and_eq_true, Bool.not_eq_true', bne_iff_ne, ne_eq, beq_iff_eq] at h' ⊢
    exact ⟨h'.1, hroot s hs h⟩)
  omega
