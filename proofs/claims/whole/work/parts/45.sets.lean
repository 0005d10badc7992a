/-! sets of places as ints -/
theorem tb_test (z s : Nat) : tb z s = z.testBit s := by
  rw [Nat.testBit_eq_decide_div_mod_eq]
  unfold tb
  by_cases h : z / 2 ^ s % 2 = 1
  · rw [h]; rfl
  · rw [decide_eq_false h]
    exact beq_eq_false_iff_ne.mpr h
theorem bz_test (R : Nat → Bool) (n s : Nat) : (bz R n).testBit s = (decide (s < n) && R s) := by
  by_cases h : s < n
  · rw [← tb_test, bz_tb R n s h, decide_eq_true h]; rfl
  · rw [decide_eq_false h, Nat.testBit_lt_two_pow (Nat.lt_of_lt_of_le (bz_lt R n) (Nat.pow_le_pow_right (by decide) (by omega)))]
    rfl
theorem bz_or (R : Nat → Bool) {n s : Nat} (hs : s < n) : bz R n ||| 2 ^ s = bz (fun t => R t || t == s) n := by
  apply Nat.eq_of_testBit_eq
  intro i
  rw [Nat.testBit_or, bz_test, bz_test, Nat.testBit_two_pow]
  by_cases e : s = i
  · subst e
    rw [decide_eq_true rfl, decide_eq_true hs]
    simp
  · rw [decide_eq_false e]
    have : (i == s) = false := beq_eq_false_iff_ne.mpr (fun z => e z.symm)
    simp [this]
theorem bz_congr {R R' : Nat → Bool} {n : Nat} (h : ∀ s, s < n → R s = R' s) : bz R n = bz R' n := by
  apply Nat.eq_of_testBit_eq
  intro i
  rw [bz_test, bz_test]
  by_cases e : i < n
  · rw [h i e]
  · rw [decide_eq_false e]; rfl
theorem bz_cn (R : Nat → Bool) : gf_cn 16 (tb (bz R 16)) = gf_cn 16 R := gf_cn_congr (fun s hs => bz_tb R 16 s hs)
theorem nx_or (a b : Nat) : nI a ||| nI b = nI (a ||| b) := by
  apply Int32.toBitVec_inj.mp
  rw [Int32.toBitVec_or]
  show BitVec.ofNat 32 a ||| BitVec.ofNat 32 b = BitVec.ofNat 32 (a ||| b)
  apply BitVec.eq_of_toNat_eq
  rw [BitVec.toNat_or, BitVec.toNat_ofNat, BitVec.toNat_ofNat, BitVec.toNat_ofNat, Nat.or_mod_two_pow]
theorem nx_shl1 {s : Nat} (hs : s < 16) : ma_shl (nI 1) (nI s) = nI (2 ^ s) := by
  have : ∀ s, s < 16 → ma_shl (nI 1) (nI s) = nI (2 ^ s) := by decide +kernel
  exact this s hs
