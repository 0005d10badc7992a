/-! the reference: times, power, inverse, in -/
theorem bt_low : ∀ b, b < 256 → ∀ k, k < 8 → b % 2 ^ (k + 1) = (b % 2 ^ k) ^^^ (if b / 2 ^ k % 2 = 1 then 2 ^ k else 0) := fun b hb k hk => of_decide_eq_true (gf_all (p := fun k => decide (b % 2 ^ (k + 1) = (b % 2 ^ k) ^^^ (if b / 2 ^ k % 2 = 1 then 2 ^ k else 0))) (gf_all (p := fun b => (List.range 8).all fun k => decide (b % 2 ^ (k + 1) = (b % 2 ^ k) ^^^ (if b / 2 ^ k % 2 = 1 then 2 ^ k else 0))) (by decide +kernel) b hb) k hk)
theorem bt_pow : ∀ k, k < 8 → 2 ^ k = gf_ex k := by decide +kernel
theorem bt_amt : ∀ k, k < 32 → ((nI k &&& 31).toBitVec.smod 32).toNat = k := by decide +kernel
theorem nx_shr {n k : Nat} (hn : n < 2 ^ 31) (hk : k < 32) : ma_shr (nI n) (nI k) = nI (n / 2 ^ k) := pk_shrN hn _ k (bt_amt k hk)
theorem nx_shl {n k : Nat} (hk : k < 32) (h : n * 2 ^ k < 2 ^ 32) : ma_shl (nI n) (nI k) = nI (n * 2 ^ k) := pk_shlN _ k (bt_amt k hk) h
theorem nx_and1 {n : Nat} (h : n < 2 ^ 32) : nI n &&& nI 1 = nI (n % 2) := pk_andN h (m := nI 1) 1 (by decide +kernel)
theorem nx_and255 {n : Nat} (h : n < 2 ^ 32) : nI n &&& nI 255 = nI (n % 256) := pk_andN h (m := nI 255) 8 (by decide +kernel)
theorem m_mtimes (l : Launch) (g : ma_G) (x : Bool) (S : ma_S) (h : ma_H) {a b : Nat} (ha : a < 256) (hb : b < 256) : ma_PM l g x me_Mod_times [.int (nI a), .int (nI b)] S h (fun v S' h' => v = some (.int (nI (gf_m a b))) ∧ S' = S ∧ h' = h) := by
  refine ma_PM_of (P := pr_Mod_times) (by decide) rfl (Nat.le_of_ble_eq_true rfl) ?_
  show ma_J l g x none me_Mod_times pr_Mod_times _ 0 [some (.int (nI a)), some (.int (nI b)), none, none, none] [] 0 0 S h
  have loop : ∀ m k, k + m = 8 → ma_J l g x none me_Mod_times pr_Mod_times (fun v S' h' => v = some (.int (nI (gf_m a b))) ∧ S' = S ∧ h' = h) 8 [some (.int (nI a)), some (.int (nI b)), some (.int (nI (gf_m a (b % 2 ^ k)))), some (.int (nI (gf_m a (gf_ex k)))), some (.int (nI k))] [] 0 0 S h := by
    intro m
    induction m with
    | zero =>
      intro k hk
      refine ma_run0 po_Mod_times rfl rfl [8] 60 ?_
      simp only [pa_Mod_times, ma_go, ev_A, ev_B, ev_C, ev_D, Nat.reduceAdd, List.mem_cons, List.not_mem_nil, or_false, or_true, true_or, false_or, or_self, Nat.reduceEqDiff, reduceCtorEq, ↓reduceIte, List.length_cons, List.length_nil, Nat.reduceLT, Nat.reduceLeDiff, Nat.le_refl, implies_true, true_and, and_true, Option.toList, List.cons_append, List.nil_append]
      have e : k = 8 := by omega
      subst e
      rw [Nat.mod_eq_of_lt (show b < 2 ^ 8 from hb)]
      exact ⟨fun _ => rfl, fun q => absurd (nI_le (Nat.le_refl _) (by omega)) q⟩
    | succ m ih =>
      intro k hk
      have i2 := ih (k + 1) (by omega)
      have hxl := gf_m_lt a (gf_ex k)
      have hk2 : gf_m a (gf_ex (k + 1)) = gf_xt (gf_m a (gf_ex k)) := by
        rw [← gf_m_two hxl, ← gf_m_assoc (by decide) ha (gf_ex_pos k).2, gf_m_comm 2 a, gf_m_assoc ha (by decide) (gf_ex_pos k).2, show gf_m 2 (gf_ex k) = gf_ex (k + 1) from (gf_ex_add 1 k).trans (by rw [Nat.add_comm])]
      have hp2 : gf_m a (b % 2 ^ (k + 1)) = gf_m a (b % 2 ^ k) ^^^ (if b / 2 ^ k % 2 = 1 then gf_m a (gf_ex k) else 0) := by
        rw [bt_low b hb k (by omega), gf_distrib ha (Nat.lt_of_le_of_lt (Nat.mod_le _ _) hb) (by split; rw [bt_pow k (by omega)]; exact (gf_ex_pos k).2; decide)]
        congr 1
        by_cases e : b / 2 ^ k % 2 = 1
        · rw [if_pos e, if_pos e, bt_pow k (by omega)]
        · rw [if_neg e, if_neg e, gf_m_zero_right]
      have hpl := gf_m_lt a (b % 2 ^ k)
      have hbk : b / 2 ^ k < 256 := Nat.lt_of_le_of_lt (Nat.div_le_self _ _) hb
      rw [hk2, hp2] at i2
      unfold gf_xt at i2
      refine ma_run0 po_Mod_times rfl rfl [8] 60 ?_
      simp only [pa_Mod_times, ma_go, ev_A, ev_B, ev_C, ev_D, Nat.reduceAdd, List.mem_cons, List.not_mem_nil, or_false, or_true, true_or, false_or, or_self, Nat.reduceEqDiff, reduceCtorEq, ↓reduceIte, List.length_cons, List.length_nil, Nat.reduceLT, Nat.reduceLeDiff, Nat.le_refl, implies_true, true_and, and_true, Option.toList, List.cons_append, List.nil_append]
      rw [nx_shr (by omega) (by omega), nx_and1 (by omega), nx_shl (by omega) (by omega), nx_1, nx_xor, nx_xor]
      have hz : nI (b / 2 ^ k % 2) = nI 1 ↔ b / 2 ^ k % 2 = 1 := nI_eq (by omega) (by omega)
      refine ⟨fun q => absurd q (nI_ge (by omega) (by omega)), fun _ => ⟨fun q => ?_, fun q => ?_⟩⟩
      · have hz' : ¬ b / 2 ^ k % 2 = 1 := fun e => q (hz.mpr e)
        rw [if_neg hz', Nat.xor_zero] at i2
        refine ⟨fun q2 => ?_, fun q2 => ?_⟩
        · have := (nI_leI (by omega) (by omega)).mp q2
          rw [if_pos (by omega)] at i2
          rw [show gf_m a (gf_ex k) * 2 ^ 1 = 2 * gf_m a (gf_ex k) by omega]
          exact i2
        · have : ¬ gf_m a (gf_ex k) * 2 ^ 1 ≤ 255 := fun z => q2 (nI_le z (by omega))
          rw [if_neg (by omega)] at i2
          rw [show gf_m a (gf_ex k) * 2 ^ 1 = 2 * gf_m a (gf_ex k) by omega]
          exact i2
      · rw [if_pos (hz.mp q)] at i2
        refine ⟨fun q2 => ?_, fun q2 => ?_⟩
        · have := (nI_leI (by omega) (by omega)).mp q2
          rw [if_pos (by omega)] at i2
          rw [show gf_m a (gf_ex k) * 2 ^ 1 = 2 * gf_m a (gf_ex k) by omega]
          exact i2
        · have : ¬ gf_m a (gf_ex k) * 2 ^ 1 ≤ 255 := fun z => q2 (nI_le z (by omega))
          rw [if_neg (by omega)] at i2
          rw [show gf_m a (gf_ex k) * 2 ^ 1 = 2 * gf_m a (gf_ex k) by omega]
          exact i2
  have h0 := loop 8 0 rfl
  rw [show b % 2 ^ 0 = 0 by omega, gf_m_zero_right, show gf_ex 0 = 1 from rfl, gf_m_one ha] at h0
  refine ma_run0 po_Mod_times rfl rfl [8] 60 ?_
  simp only [pa_Mod_times, ma_go, ev_A, ev_B, ev_C, ev_D, Nat.reduceAdd, List.mem_cons, List.not_mem_nil, or_false, or_true, true_or, false_or, or_self, Nat.reduceEqDiff, reduceCtorEq, ↓reduceIte, List.length_cons, List.length_nil, Nat.reduceLT, Nat.reduceLeDiff, Nat.le_refl, implies_true, true_and, and_true, Option.toList, List.cons_append, List.nil_append]
  rw [nx_and255 (by omega), Nat.mod_eq_of_lt ha]
  exact h0
theorem m_in (l : Launch) (g : ma_G) (x : Bool) (S : ma_S) (h : ma_H) (v lo hi : Int32) : ma_PM l g x me_Mod_in [.int v, .int lo, .int hi] S h (fun r S' h' => r = some (.int (nI (zb (decide (lo ≤ v ∧ v ≤ hi))))) ∧ S' = S ∧ h' = h) := by
  refine ma_PM_of (P := pr_Mod_in) (by decide) rfl (Nat.le_of_ble_eq_true rfl) ?_
  show ma_J l g x none me_Mod_in pr_Mod_in _ 0 [some (.int v), some (.int lo), some (.int hi)] [] 0 0 S h
  refine ma_run0 po_Mod_in rfl rfl [] 60 ?_
  simp only [pa_Mod_in, ma_go, ev_A, ev_B, ev_C, ev_D, Nat.reduceAdd, List.mem_cons, List.not_mem_nil, or_false, or_true, true_or, false_or, or_self, Nat.reduceEqDiff, reduceCtorEq, ↓reduceIte, List.length_cons, List.length_nil, Nat.reduceLT, Nat.reduceLeDiff, Nat.le_refl, implies_true, true_and, and_true, Option.toList, List.cons_append, List.nil_append]
  refine ⟨fun q => ?_, fun q => ⟨fun q2 => ?_, fun q2 => ?_⟩⟩
  · rw [decide_eq_false (fun z => Int32.not_le.mpr q z.1)]
    rfl
  · rw [decide_eq_false (fun z => Int32.not_le.mpr q2 z.2)]
    rfl
  · rw [decide_eq_true ⟨Int32.not_lt.mp q, Int32.not_lt.mp q2⟩]
    rfl
