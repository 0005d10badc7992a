/-! Integer.bitCount -/
def bq (z : Nat) : Nat :=
  let e1 := z - (z / 2 &&& 1431655765)
  let e2 := (e1 &&& 858993459) + (e1 / 4 &&& 858993459)
  let e3 := e2 + e2 / 16 &&& 252645135
  let e4 := e3 + e3 / 256
  let e5 := e4 + e4 / 65536
  e5 &&& 63
theorem la_b {x y m k : Nat} (hx : x < 256) (hm : m < 256) : (x + 256 * y) &&& (m + 256 * k) = (x &&& m) + 256 * (y &&& k) := by
  have h1 : ((x + 256 * y) &&& (m + 256 * k)) % 2 ^ 8 = ((x + 256 * y) % 2 ^ 8) &&& ((m + 256 * k) % 2 ^ 8) := Nat.and_mod_two_pow
  have h2 : ((x + 256 * y) &&& (m + 256 * k)) / 2 ^ 8 = ((x + 256 * y) / 2 ^ 8) &&& ((m + 256 * k) / 2 ^ 8) := Nat.and_div_two_pow
  rw [show (x + 256 * y) % 2 ^ 8 = x by omega, show (m + 256 * k) % 2 ^ 8 = m by omega] at h1
  rw [show (x + 256 * y) / 2 ^ 8 = y by omega, show (m + 256 * k) / 2 ^ 8 = k by omega] at h2
  omega
def q1 (a : Nat) : Nat := a - (a / 2 &&& 85)
def q2 (p : Nat) : Nat := (p &&& 51) + (p / 4 &&& 51)
theorem by_1 : ∀ a, a < 256 → ∀ t, t < 2 → (a / 2 + 128 * t &&& 85) = (a / 2 &&& 85) ∧ (a &&& 5592405) = (a &&& 85) := by decide +kernel
theorem by_2 : ∀ p, p < 256 → ∀ t, t < 4 → (p / 4 + 64 * t &&& 51) = (p / 4 &&& 51) ∧ (p &&& 3355443) = (p &&& 51) := by decide +kernel
theorem by_3 : ∀ a, a < 256 → q1 a < 256 ∧ q2 (q1 a) % 16 ≤ 4 ∧ q2 (q1 a) / 16 ≤ 4 ∧ q2 (q1 a) / 16 + q2 (q1 a) % 16 = pcn 8 a := by decide +kernel
theorem pcn_8 : ∀ b, b < 256 → pcn 8 b = pcn 16 b := by decide +kernel
theorem pcn_add : ∀ n m a b, a < 2 ^ n → pcn (n + m) (a + 2 ^ n * b) = pcn n a + pcn m b
  | 0, m, a, b, h => by
    have : a = 0 := by omega
    subst this
    rw [Nat.zero_add, Nat.zero_add, Nat.pow_zero, Nat.one_mul, pcn, Nat.zero_add]
  | n + 1, m, a, b, h => by
    rw [Nat.pow_succ] at h
    have ih := pcn_add n m (a / 2) b (by omega)
    rw [show n + 1 + m = (n + m) + 1 by omega, pcn, pcn, Nat.pow_succ, show a + 2 ^ n * 2 * b = a + 2 * (2 ^ n * b) by rw [Nat.mul_assoc, Nat.mul_left_comm], Nat.add_mul_mod_self_left, Nat.add_mul_div_left _ _ (by decide), ih]
    omega
theorem by_4 {u v : Nat} (a2 : u % 16 ≤ 4) (a3 : u / 16 ≤ 4) (b2 : v % 16 ≤ 4) (b3 : v / 16 ≤ 4) : ((u + 256 * v + (u + 256 * v) / 16 &&& 252645135) + (u + 256 * v + (u + 256 * v) / 16 &&& 252645135) / 256 + ((u + 256 * v + (u + 256 * v) / 16 &&& 252645135) + (u + 256 * v + (u + 256 * v) / 16 &&& 252645135) / 256) / 65536 &&& 63) = u / 16 + u % 16 + (v / 16 + v % 16) := by
  obtain ⟨d0, d1, rfl, h0, h1⟩ : ∃ d0 d1, u = 16 * d1 + d0 ∧ d0 ≤ 4 ∧ d1 ≤ 4 := ⟨u % 16, u / 16, by omega, a2, a3⟩
  obtain ⟨c0, c1, rfl, k0, k1⟩ : ∃ d0 d1, v = 16 * d1 + d0 ∧ d0 ≤ 4 ∧ d1 ≤ 4 := ⟨v % 16, v / 16, by omega, b2, b3⟩
  clear a2 a3 b2 b3
  have s3 : (16 * d1 + d0 + 256 * (16 * c1 + c0) + (16 * d1 + d0 + 256 * (16 * c1 + c0)) / 16 &&& 252645135) = (d1 + d0) + 256 * (c1 + c0) := by
    rw [show 16 * d1 + d0 + 256 * (16 * c1 + c0) + (16 * d1 + d0 + 256 * (16 * c1 + c0)) / 16 = (d0 + d1 + 16 * (d1 + c0)) + 256 * ((c0 + c1 + 16 * c1) + 256 * 0) by omega, show 252645135 = 15 + 256 * (15 + 256 * 3855) from rfl, la_b (by omega) (by decide), la_b (by omega) (by decide), Nat.zero_and, show 15 = 2 ^ 4 - 1 from rfl, Nat.and_two_pow_sub_one_eq_mod, Nat.and_two_pow_sub_one_eq_mod, show (d0 + d1 + 16 * (d1 + c0)) % 2 ^ 4 = d0 + d1 by omega, show (c0 + c1 + 16 * c1) % 2 ^ 4 = c0 + c1 by omega]
    omega
  rw [s3, show 63 = 2 ^ 6 - 1 from rfl, Nat.and_two_pow_sub_one_eq_mod, show (d1 + d0 + 256 * (c1 + c0)) / 256 = c1 + c0 by omega, show (d1 + d0 + 256 * (c1 + c0) + (c1 + c0)) / 65536 = 0 by omega, show (16 * d1 + d0) / 16 = d1 by omega, show (16 * d1 + d0) % 16 = d0 by omega, show (16 * c1 + c0) / 16 = c1 by omega, show (16 * c1 + c0) % 16 = c0 by omega]
  omega
theorem bq_eq {z : Nat} (hz : z < 65536) : bq z = gf_cn 16 (tb z) := by
  obtain ⟨a, b, ha, hb, rfl⟩ : ∃ a b, a < 256 ∧ b < 256 ∧ z = a + 256 * b := ⟨z % 256, z / 256, by omega, by omega, by omega⟩
  obtain ⟨a1, a2, a3, a4⟩ := by_3 a ha
  obtain ⟨b1, b2, b3, b4⟩ := by_3 b hb
  rw [pcn_eq, show pcn 16 (a + 256 * b) = pcn 8 a + pcn 8 b from pcn_add 8 8 a b ha, ← a4, ← b4]
  have s1 : (a + 256 * b) - ((a + 256 * b) / 2 &&& 1431655765) = q1 a + 256 * q1 b := by
    rw [show (a + 256 * b) / 2 = (a / 2 + 128 * (b % 2)) + 256 * (b / 2) by omega, show 1431655765 = 85 + 256 * 5592405 from rfl, la_b (by omega) (by decide), (by_1 a ha (b % 2) (by omega)).1, (by_1 (b / 2) (by omega) 0 (by omega)).2]
    have h1 : a / 2 &&& 85 ≤ a / 2 := Nat.and_le_left
    have h2 : b / 2 &&& 85 ≤ b / 2 := Nat.and_le_left
    unfold q1
    omega
  have s2 : ((q1 a + 256 * q1 b) &&& 858993459) + ((q1 a + 256 * q1 b) / 4 &&& 858993459) = q2 (q1 a) + 256 * q2 (q1 b) := by
    rw [show (q1 a + 256 * q1 b) / 4 = (q1 a / 4 + 64 * (q1 b % 4)) + 256 * (q1 b / 4) by omega, show 858993459 = 51 + 256 * 3355443 from rfl, la_b (by omega) (by decide), la_b (by omega) (by decide), (by_2 _ a1 (q1 b % 4) (by omega)).1, (by_2 (q1 b / 4) (by omega) 0 (by omega)).2, (by_2 _ b1 0 (by omega)).2]
    unfold q2
    omega
  unfold bq
  dsimp only
  rw [s1, s2]
  exact by_4 a2 a3 b2 b3
theorem us_c : ∀ k, k < 32 → ((nI k).toUInt32 &&& 31) = UInt32.ofNat k := by decide +kernel
theorem nx_ushr {a k : Nat} (ha : a < 2 ^ 32) (hk : k < 32) : ma_ushr (nI a) (nI k) = nI (a / 2 ^ k) := by
  apply Int32.toBitVec_inj.mp
  apply BitVec.eq_of_toNat_eq
  show ((nI a).toUInt32 >>> ((nI k).toUInt32 &&& 31)).toNat = (BitVec.ofNat 32 _).toNat
  rw [us_c k hk]
  have h1 : (UInt32.ofNat k).toNat = k := by
    show (BitVec.ofNat 32 k).toNat = k
    rw [BitVec.toNat_ofNat, Nat.mod_eq_of_lt (by omega)]
  have h2 : (nI a).toUInt32.toNat = a := by
    show (BitVec.ofNat 32 a).toNat = a
    rw [BitVec.toNat_ofNat, Nat.mod_eq_of_lt ha]
  rw [UInt32.toNat_shiftRight, h1, h2, Nat.mod_eq_of_lt hk, Nat.shiftRight_eq_div_pow, BitVec.toNat_ofNat, Nat.mod_eq_of_lt (Nat.lt_of_le_of_lt (Nat.div_le_self _ _) ha)]
theorem m_bitCount (l : Launch) (g : ma_G) (x : Bool) {h : ma_H} {z : Nat} (hz : z < 65536) : ma_PM l g x me_Itg_bitCount [.int (nI z)] GS h (fun v S' h' => v = some (.int (nI (gf_cn 16 (tb z)))) ∧ S' = GS ∧ h' = h) := by
  refine ma_PM_for (P := pr_Itg_bitCount) (by decide +kernel) rfl (Nat.le_of_ble_eq_true rfl) ?_
  show ma_J l g x none me_Itg_bitCount pr_Itg_bitCount _ 0 [some (.int (nI z))] [] 0 0 GS h
  refine ma_run0 po_Itg_bitCount rfl rfl [] 80 ?_
  simp only [pa_Itg_bitCount, ma_go, ev_A, ev_B, ev_C, ev_D, Nat.reduceAdd, List.mem_cons, List.not_mem_nil, or_false, or_true, true_or, false_or, or_self, Nat.reduceEqDiff, reduceCtorEq, ↓reduceIte, List.length_cons, List.length_nil, Nat.reduceLT, Nat.reduceLeDiff, Nat.le_refl, implies_true, true_and, and_true, Option.toList, List.cons_append, List.nil_append]
  rw [← bq_eq hz]
  have a1 : z / 2 &&& 1431655765 ≤ z / 2 := Nat.and_le_left
  have f1 : nI z - (ma_ushr (nI z) (nI 1) &&& nI 1431655765) = nI (z - (z / 2 &&& 1431655765)) := by
    rw [nx_ushr (by omega) (by omega), nx_and]
    exact nx_sub' (by show z / 2 &&& 1431655765 ≤ z; omega)
  rw [f1]
  have f : bq z = (let e1 := z - (z / 2 &&& 1431655765); let e2 := (e1 &&& 858993459) + (e1 / 4 &&& 858993459); let e3 := e2 + e2 / 16 &&& 252645135; let e4 := e3 + e3 / 256; let e5 := e4 + e4 / 65536; e5 &&& 63) := rfl
  rw [f]
  have b1 : z - (z / 2 &&& 1431655765) < 65536 := by omega
  generalize z - (z / 2 &&& 1431655765) = e1 at b1 ⊢
  have a2 : e1 &&& 858993459 ≤ e1 := Nat.and_le_left
  have a3 : e1 / 4 &&& 858993459 ≤ e1 / 4 := Nat.and_le_left
  have f2 : (nI e1 &&& nI 858993459) + (ma_ushr (nI e1) (nI 2) &&& nI 858993459) = nI ((e1 &&& 858993459) + (e1 / 4 &&& 858993459)) := by
    rw [nx_ushr (by omega) (by omega), nx_and, nx_and, nI_add]
  rw [f2]
  have b2 : (e1 &&& 858993459) + (e1 / 4 &&& 858993459) < 131072 := by omega
  dsimp only
  generalize (e1 &&& 858993459) + (e1 / 4 &&& 858993459) = e2 at b2 ⊢
  have a4 : e2 + e2 / 16 &&& 252645135 ≤ e2 + e2 / 16 := Nat.and_le_left
  have f3 : nI e2 + ma_ushr (nI e2) (nI 4) &&& nI 252645135 = nI (e2 + e2 / 16 &&& 252645135) := by
    rw [nx_ushr (by omega) (by omega), nI_add, nx_and]
  rw [f3]
  have b3 : e2 + e2 / 16 &&& 252645135 < 262144 := by omega
  generalize (e2 + e2 / 16 &&& 252645135) = e3 at b3 ⊢
  have f4 : nI e3 + ma_ushr (nI e3) (nI 8) = nI (e3 + e3 / 256) := by rw [nx_ushr (by omega) (by omega), nI_add]
  rw [f4]
  have f5 : nI (e3 + e3 / 256) + ma_ushr (nI (e3 + e3 / 256)) (nI 16) = nI (e3 + e3 / 256 + (e3 + e3 / 256) / 65536) := by rw [nx_ushr (by omega) (by omega), nI_add]
  rw [f5, nx_and]
