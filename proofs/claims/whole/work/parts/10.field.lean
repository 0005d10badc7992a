/-! the field of 256 elements: numbers below 256, addition is xor, multiplication by powers of 2 -/
def gf_exT : List Nat := [1, 2, 4, 8, 16, 32, 64, 128, 29, 58, 116, 232, 205, 135, 19, 38, 76, 152, 45, 90, 180, 117, 234, 201, 143, 3, 6, 12, 24, 48, 96, 192, 157, 39, 78, 156, 37, 74, 148, 53, 106, 212, 181, 119, 238, 193, 159, 35, 70, 140, 5, 10, 20, 40, 80, 160, 93, 186, 105, 210, 185, 111, 222, 161, 95, 190, 97, 194, 153, 47, 94, 188, 101, 202, 137, 15, 30, 60, 120, 240, 253, 231, 211, 187, 107, 214, 177, 127, 254, 225, 223, 163, 91, 182, 113, 226, 217, 175, 67, 134, 17, 34, 68, 136, 13, 26, 52, 104, 208, 189, 103, 206, 129, 31, 62, 124, 248, 237, 199, 147, 59, 118, 236, 197, 151, 51, 102, 204, 133, 23, 46, 92, 184, 109, 218, 169, 79, 158, 33, 66, 132, 21, 42, 84, 168, 77, 154, 41, 82, 164, 85, 170, 73, 146, 57, 114, 228, 213, 183, 115, 230, 209, 191, 99, 198, 145, 63, 126, 252, 229, 215, 179, 123, 246, 241, 255, 227, 219, 171, 75, 150, 49, 98, 196, 149, 55, 110, 220, 165, 87, 174, 65, 130, 25, 50, 100, 200, 141, 7, 14, 28, 56, 112, 224, 221, 167, 83, 166, 81, 162, 89, 178, 121, 242, 249, 239, 195, 155, 43, 86, 172, 69, 138, 9, 18, 36, 72, 144, 61, 122, 244, 245, 247, 243, 251, 235, 203, 139, 11, 22, 44, 88, 176, 125, 250, 233, 207, 131, 27, 54, 108, 216, 173, 71, 142]
def gf_lgT : List Nat := [0, 0, 1, 25, 2, 50, 26, 198, 3, 223, 51, 238, 27, 104, 199, 75, 4, 100, 224, 14, 52, 141, 239, 129, 28, 193, 105, 248, 200, 8, 76, 113, 5, 138, 101, 47, 225, 36, 15, 33, 53, 147, 142, 218, 240, 18, 130, 69, 29, 181, 194, 125, 106, 39, 249, 185, 201, 154, 9, 120, 77, 228, 114, 166, 6, 191, 139, 98, 102, 221, 48, 253, 226, 152, 37, 179, 16, 145, 34, 136, 54, 208, 148, 206, 143, 150, 219, 189, 241, 210, 19, 92, 131, 56, 70, 64, 30, 66, 182, 163, 195, 72, 126, 110, 107, 58, 40, 84, 250, 133, 186, 61, 202, 94, 155, 159, 10, 21, 121, 43, 78, 212, 229, 172, 115, 243, 167, 87, 7, 112, 192, 247, 140, 128, 99, 13, 103, 74, 222, 237, 49, 197, 254, 24, 227, 165, 153, 119, 38, 184, 180, 124, 17, 68, 146, 217, 35, 32, 137, 46, 55, 63, 209, 91, 149, 188, 207, 205, 144, 135, 151, 178, 220, 252, 190, 97, 242, 86, 211, 171, 20, 42, 93, 158, 132, 60, 57, 83, 71, 109, 65, 162, 31, 45, 67, 216, 183, 123, 164, 118, 196, 23, 73, 236, 127, 12, 111, 246, 108, 161, 59, 82, 41, 157, 85, 170, 251, 96, 134, 177, 187, 204, 62, 90, 203, 89, 95, 176, 156, 169, 160, 81, 11, 245, 22, 235, 122, 117, 44, 215, 79, 174, 213, 233, 230, 231, 173, 232, 116, 214, 244, 234, 168, 80, 88, 175]
def gf_ex (n : Nat) : Nat := gf_exT.getD (n % 255) 0
def gf_lg (a : Nat) : Nat := gf_lgT.getD a 0
def gf_xt (x : Nat) : Nat := if x < 128 then 2 * x else (2 * x) ^^^ 285
def gf_m (a b : Nat) : Nat := if a = 0 ∨ b = 0 then 0 else gf_ex (gf_lg a + gf_lg b)
def gf_inv (a : Nat) : Nat := gf_ex (255 - gf_lg a)
theorem gf_all {n : Nat} {p : Nat → Bool} (h : (List.range n).all p = true) : ∀ i, i < n → p i = true := fun i hi => List.all_eq_true.mp h i (List.mem_range.mpr hi)
theorem gf_t1 : ∀ i, i < 255 → gf_lg (gf_ex i) = i ∧ 0 < gf_ex i ∧ gf_ex i < 256 := fun i hi => of_decide_eq_true (gf_all (p := fun i => decide (gf_lg (gf_ex i) = i ∧ 0 < gf_ex i ∧ gf_ex i < 256)) (by decide +kernel) i hi)
theorem gf_t2 : ∀ a, a < 256 → a = 0 ∨ (gf_lg a < 255 ∧ gf_ex (gf_lg a) = a) := fun i hi => of_decide_eq_true (gf_all (p := fun a => decide (a = 0 ∨ (gf_lg a < 255 ∧ gf_ex (gf_lg a) = a))) (by decide +kernel) i hi)
theorem gf_t3 : ∀ i, i < 255 → gf_ex (i + 1) = gf_xt (gf_ex i) := fun i hi => of_decide_eq_true (gf_all (p := fun i => decide (gf_ex (i + 1) = gf_xt (gf_ex i))) (by decide +kernel) i hi)
theorem gf_t4 : ∀ x, x < 256 → ∀ y, y < 256 → gf_xt (x ^^^ y) = gf_xt x ^^^ gf_xt y := fun x hx y hy => of_decide_eq_true (gf_all (p := fun y => decide (gf_xt (x ^^^ y) = gf_xt x ^^^ gf_xt y)) (gf_all (p := fun x => (List.range 256).all fun y => decide (gf_xt (x ^^^ y) = gf_xt x ^^^ gf_xt y)) (by decide +kernel) x hx) y hy)
theorem gf_ex_mod (n : Nat) : gf_ex (n % 255) = gf_ex n := by
  unfold gf_ex
  rw [Nat.mod_mod]
theorem gf_ex_pos (n : Nat) : 0 < gf_ex n ∧ gf_ex n < 256 := by
  rw [← gf_ex_mod]
  exact (gf_t1 _ (Nat.mod_lt _ (by decide))).2
theorem gf_lg_ex (n : Nat) : gf_lg (gf_ex n) = n % 255 := by
  rw [← gf_ex_mod]
  exact (gf_t1 _ (Nat.mod_lt _ (by decide))).1
theorem gf_ex_lg {a : Nat} (h : a < 256) (h0 : a ≠ 0) : gf_ex (gf_lg a) = a := by
  rcases gf_t2 a h with h1 | h1
  · exact absurd h1 h0
  · exact h1.2
theorem gf_ex_eq {m n : Nat} (h : m % 255 = n % 255) : gf_ex m = gf_ex n := by
  rw [← gf_ex_mod m, h, gf_ex_mod]
theorem gf_ex_inj {m n : Nat} (h : gf_ex m = gf_ex n) : m % 255 = n % 255 := by
  rw [← gf_lg_ex, h, gf_lg_ex]
theorem gf_ex_add (m n : Nat) : gf_m (gf_ex m) (gf_ex n) = gf_ex (m + n) := by
  unfold gf_m
  rw [if_neg (by have := gf_ex_pos m; have := gf_ex_pos n; omega), gf_lg_ex, gf_lg_ex]
  exact gf_ex_eq (by omega)
theorem gf_m_lt (a b : Nat) : gf_m a b < 256 := by
  unfold gf_m
  split
  · decide
  · exact (gf_ex_pos _).2
theorem gf_m_zero_left (b : Nat) : gf_m 0 b = 0 := by simp [gf_m]
theorem gf_m_zero_right (a : Nat) : gf_m a 0 = 0 := by simp [gf_m]
theorem gf_m_comm (a b : Nat) : gf_m a b = gf_m b a := by
  unfold gf_m
  by_cases h : a = 0 ∨ b = 0
  · rw [if_pos h, if_pos (by omega)]
  · rw [if_neg h, if_neg (by omega), Nat.add_comm]
theorem gf_rep {a : Nat} (h : a < 256) : a = 0 ∨ ∃ i, i < 255 ∧ a = gf_ex i := by
  rcases gf_t2 a h with h1 | h1
  · exact Or.inl h1
  · exact Or.inr ⟨_, h1.1, h1.2.symm⟩
theorem gf_m_assoc {a b c : Nat} (ha : a < 256) (hb : b < 256) (hc : c < 256) : gf_m (gf_m a b) c = gf_m a (gf_m b c) := by
  rcases gf_rep ha with rfl | ⟨i, -, rfl⟩
  · simp [gf_m_zero_left]
  rcases gf_rep hb with rfl | ⟨j, -, rfl⟩
  · simp [gf_m_zero_left, gf_m_zero_right]
  rcases gf_rep hc with rfl | ⟨k, -, rfl⟩
  · simp [gf_m_zero_right]
  rw [gf_ex_add, gf_ex_add, gf_ex_add, gf_ex_add, Nat.add_assoc]
theorem gf_m_one {a : Nat} (ha : a < 256) : gf_m a 1 = a := by
  rcases gf_rep ha with rfl | ⟨i, -, rfl⟩
  · simp [gf_m_zero_left]
  · exact gf_ex_add i 0
theorem gf_one_m {a : Nat} (ha : a < 256) : gf_m 1 a = a := by rw [gf_m_comm]; exact gf_m_one ha
theorem gf_m_eq_zero {a b : Nat} : gf_m a b = 0 ↔ a = 0 ∨ b = 0 := by
  unfold gf_m
  split
  · rename_i h; exact ⟨fun _ => h, fun _ => rfl⟩
  · rename_i h; exact ⟨fun q => by have := gf_ex_pos (gf_lg a + gf_lg b); omega, fun q => absurd q h⟩
theorem gf_xor_lt {a b : Nat} (ha : a < 256) (hb : b < 256) : a ^^^ b < 256 := Nat.xor_lt_two_pow (n := 8) ha hb
theorem gf_m_two {b : Nat} (hb : b < 256) : gf_m 2 b = gf_xt b := by
  rcases gf_rep hb with rfl | ⟨i, hi, rfl⟩
  · rfl
  · rw [← gf_t3 i hi]
    exact (gf_ex_add 1 i).trans (by rw [Nat.add_comm])
theorem gf_distrib {a b c : Nat} (ha : a < 256) (hb : b < 256) (hc : c < 256) : gf_m a (b ^^^ c) = gf_m a b ^^^ gf_m a c := by
  rcases gf_rep ha with rfl | ⟨i, -, rfl⟩
  · simp [gf_m_zero_left]
  clear ha
  induction i with
  | zero =>
    show gf_m 1 _ = gf_m 1 _ ^^^ gf_m 1 _
    rw [gf_one_m (gf_xor_lt hb hc), gf_one_m hb, gf_one_m hc]
  | succ i ih =>
    have e : gf_ex (i + 1) = gf_m 2 (gf_ex i) := (gf_ex_add 1 i).symm ▸ (by rw [Nat.add_comm 1 i])
    have hp := (gf_ex_pos i).2
    rw [e, gf_m_assoc (by decide) hp (gf_xor_lt hb hc), ih, gf_m_two (gf_xor_lt (gf_m_lt _ _) (gf_m_lt _ _)), gf_t4 _ (gf_m_lt _ _) _ (gf_m_lt _ _), ← gf_m_two (gf_m_lt _ _), ← gf_m_two (gf_m_lt _ _), gf_m_assoc (by decide) hp hb, gf_m_assoc (by decide) hp hc]
theorem gf_distrib' {a b c : Nat} (ha : a < 256) (hb : b < 256) (hc : c < 256) : gf_m (b ^^^ c) a = gf_m b a ^^^ gf_m c a := by
  rw [gf_m_comm, gf_distrib ha hb hc, gf_m_comm a b, gf_m_comm a c]
theorem gf_inv_lt (a : Nat) : gf_inv a < 256 := (gf_ex_pos _).2
theorem gf_m_inv {a : Nat} (ha : a < 256) (h0 : a ≠ 0) : gf_m a (gf_inv a) = 1 := by
  rcases gf_t2 a ha with h1 | h1
  · exact absurd h1 h0
  · have : gf_m (gf_ex (gf_lg a)) (gf_ex (255 - gf_lg a)) = gf_ex 255 := by rw [gf_ex_add, show gf_lg a + (255 - gf_lg a) = 255 by omega]
    rw [h1.2] at this
    exact this
theorem gf_cancel {a b c : Nat} (ha : a < 256) (hb : b < 256) (hc : c < 256) (h0 : a ≠ 0) (h : gf_m a b = gf_m a c) : b = c := by
  have h1 := congrArg (gf_m (gf_inv a)) h
  rw [← gf_m_assoc (gf_inv_lt a) ha hb, ← gf_m_assoc (gf_inv_lt a) ha hc, gf_m_comm (gf_inv a) a, gf_m_inv ha h0, gf_one_m hb, gf_one_m hc] at h1
  exact h1
