/-! bits of a set, and their number -/
def tb (v s : Nat) : Bool := v / 2 ^ s % 2 == 1
def pcn : Nat → Nat → Nat
  | 0, _ => 0
  | n + 1, v => v % 2 + pcn n (v / 2)
theorem gf_cn_first (n : Nat) (p : Nat → Bool) : gf_cn (n + 1) p = zb (p 0) + gf_cn n (fun s => p (s + 1)) := by
  induction n with
  | zero =>
    show 0 + zb (p 0) = zb (p 0) + 0
    omega
  | succ n ih =>
    have e1 : gf_cn (n + 1 + 1) p = gf_cn (n + 1) p + zb (p (n + 1)) := rfl
    have e2 : gf_cn (n + 1) (fun s => p (s + 1)) = gf_cn n (fun s => p (s + 1)) + zb (p (n + 1)) := rfl
    rw [e1, ih, e2]
    omega
theorem tb_s (v s : Nat) : tb v (s + 1) = tb (v / 2) s := by
  unfold tb
  rw [Nat.pow_succ', ← Nat.div_div_eq_div_mul]
theorem pcn_eq : ∀ n v, gf_cn n (tb v) = pcn n v
  | 0, _ => rfl
  | n + 1, v => by
    rw [gf_cn_first, pcn, ← pcn_eq n (v / 2), gf_cn_congr (q := tb (v / 2)) (fun s _ => tb_s v s)]
    congr 1
    unfold tb zb
    rw [Nat.pow_zero, Nat.div_one]
    rcases Nat.mod_two_eq_zero_or_one v with h | h <;> rw [h] <;> rfl
theorem an_mod (a b : Nat) : (a &&& b) % 2 = (a % 2) &&& (b % 2) := Nat.and_mod_two_pow (n := 1)
theorem an_div (a b : Nat) : (a &&& b) / 2 = (a / 2) &&& (b / 2) := by
  apply Nat.eq_of_testBit_eq
  intro i
  rw [Nat.testBit_div_two, Nat.testBit_and, Nat.testBit_and, Nat.testBit_div_two, Nat.testBit_div_two]
theorem pcn_less : ∀ n v, v ≠ 0 → v < 2 ^ n → pcn n (v &&& (v - 1)) + 1 = pcn n v
  | 0, v, h0, h => by
    rw [Nat.pow_zero] at h
    omega
  | n + 1, v, h0, h => by
    rw [Nat.pow_succ] at h
    rw [pcn, pcn, an_mod, an_div]
    rcases Nat.mod_two_eq_zero_or_one v with h2 | h2
    · rw [h2, Nat.zero_and, show (v - 1) / 2 = v / 2 - 1 by omega]
      have := pcn_less n (v / 2) (by omega) (by omega)
      omega
    · rw [h2, show (v - 1) % 2 = 0 by omega, Nat.and_zero, show (v - 1) / 2 = v / 2 by omega, Nat.and_self]
      omega
theorem pcn_zero : ∀ n, pcn n 0 = 0
  | 0 => rfl
  | n + 1 => by rw [pcn, Nat.zero_mod, Nat.zero_div, pcn_zero n]
theorem nx_and (a b : Nat) : nI a &&& nI b = nI (a &&& b) := by
  apply Int32.toBitVec_inj.mp
  rw [Int32.toBitVec_and]
  show BitVec.ofNat 32 a &&& BitVec.ofNat 32 b = BitVec.ofNat 32 (a &&& b)
  apply BitVec.eq_of_toNat_eq
  rw [BitVec.toNat_and, BitVec.toNat_ofNat, BitVec.toNat_ofNat, BitVec.toNat_ofNat, Nat.and_mod_two_pow]
theorem m_ones (l : Launch) (g : ma_G) (x : Bool) (S : ma_S) (h : ma_H) {z : Nat} (hz : z < 65536) : ma_PM l g x me_Mod_ones [.int (nI z)] S h (fun v S' h' => v = some (.int (nI (gf_cn 16 (tb z)))) ∧ S' = S ∧ h' = h) := by
  rw [pcn_eq]
  refine ma_PM_of (P := pr_Mod_ones) (by decide) rfl (Nat.le_of_ble_eq_true rfl) ?_
  show ma_J l g x none me_Mod_ones pr_Mod_ones _ 0 [some (.int (nI z)), none, none] [] 0 0 S h
  have loop : ∀ m v n, v ≤ m → v < 65536 → n + pcn 16 v = pcn 16 z → ma_J l g x none me_Mod_ones pr_Mod_ones (fun v S' h' => v = some (.int (nI (pcn 16 z))) ∧ S' = S ∧ h' = h) 4 [some (.int (nI z)), some (.int (nI n)), some (.int (nI v))] [] 0 0 S h := by
    intro m
    induction m with
    | zero =>
      intro v n hv hv2 hn
      have e : v = 0 := by omega
      subst e
      refine ma_run0 po_Mod_ones rfl rfl [4] 60 ?_
      simp only [pa_Mod_ones, ma_go, ev_A, ev_B, ev_C, ev_D, Nat.reduceAdd, List.mem_cons, List.not_mem_nil, or_false, or_true, true_or, false_or, or_self, Nat.reduceEqDiff, reduceCtorEq, ↓reduceIte, List.length_cons, List.length_nil, Nat.reduceLT, Nat.reduceLeDiff, Nat.le_refl, implies_true, true_and, and_true, Option.toList, List.cons_append, List.nil_append]
      rw [pcn_zero, Nat.add_zero] at hn
      rw [hn]
      exact ⟨fun _ => rfl, fun q => absurd trivial q⟩
    | succ m ih =>
      intro v n hv hv2 hn
      refine ma_run0 po_Mod_ones rfl rfl [4] 60 ?_
      simp only [pa_Mod_ones, ma_go, ev_A, ev_B, ev_C, ev_D, Nat.reduceAdd, List.mem_cons, List.not_mem_nil, or_false, or_true, true_or, false_or, or_self, Nat.reduceEqDiff, reduceCtorEq, ↓reduceIte, List.length_cons, List.length_nil, Nat.reduceLT, Nat.reduceLeDiff, Nat.le_refl, implies_true, true_and, and_true, Option.toList, List.cons_append, List.nil_append]
      refine ⟨fun q => ?_, fun q => ?_⟩
      · have e : v = 0 := (nI_eq (by omega) (by omega)).mp q
        subst e
        rw [pcn_zero, Nat.add_zero] at hn
        rw [hn]
      · have h0 : v ≠ 0 := fun e => q (by rw [e])
        rw [nx_sub' (by omega), nx_and, nx_1]
        have h1 := pcn_less 16 v h0 hv2
        have h2 : v &&& (v - 1) ≤ v - 1 := Nat.and_le_right
        exact ih _ _ (by omega) (by omega) (by omega)
  refine ma_run0 po_Mod_ones rfl rfl [4] 60 ?_
  simp only [pa_Mod_ones, ma_go, ev_A, ev_B, ev_C, ev_D, Nat.reduceAdd, List.mem_cons, List.not_mem_nil, or_false, or_true, true_or, false_or, or_self, Nat.reduceEqDiff, reduceCtorEq, ↓reduceIte, List.length_cons, List.length_nil, Nat.reduceLT, Nat.reduceLeDiff, Nat.le_refl, implies_true, true_and, and_true, Option.toList, List.cons_append, List.nil_append]
  exact loop z z 0 (Nat.le_refl _) hz (by omega)
/-- the set of the places of R -/
def bz (R : Nat → Bool) : Nat → Nat
  | 0 => 0
  | n + 1 => bz R n + zb (R n) * 2 ^ n
theorem bz_lt (R : Nat → Bool) : ∀ n, bz R n < 2 ^ n
  | 0 => (by decide : (0 : Nat) < 1)
  | n + 1 => by
    have := bz_lt R n
    rw [bz, Nat.pow_succ]
    cases R n
    · show bz R n + 0 * 2 ^ n < _
      omega
    · show bz R n + 1 * 2 ^ n < _
      omega
theorem bz_tb (R : Nat → Bool) : ∀ n s, s < n → tb (bz R n) s = R s
  | n + 1, s, hs => by
    unfold tb
    have hl := bz_lt R n
    rw [bz]
    by_cases e : s = n
    · subst e
      rw [Nat.add_mul_div_right _ _ (Nat.pow_pos (by decide)), Nat.div_eq_of_lt hl, Nat.zero_add]
      cases R s <;> rfl
    · have ih := bz_tb R n s (by omega)
      unfold tb at ih
      rw [show (2 : Nat) ^ n = 2 ^ s * (2 * 2 ^ (n - s - 1)) by rw [← Nat.pow_succ', ← Nat.pow_add]; congr 1; omega, show zb (R n) * (2 ^ s * (2 * 2 ^ (n - s - 1))) = 2 ^ s * (2 * (zb (R n) * 2 ^ (n - s - 1))) by rw [Nat.mul_left_comm, Nat.mul_left_comm (zb (R n)) 2], Nat.add_mul_div_left _ _ (Nat.pow_pos (by decide)), Nat.add_mul_mod_self_left]
      exact ih
