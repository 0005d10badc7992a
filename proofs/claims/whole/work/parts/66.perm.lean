/-! longs; shuffle of both sides -/
theorem ll_add (a b : Nat) : lN a + lN b = lN (a + b) := (Int64.ofNat_add a b).symm
theorem ll_mul (a b : Nat) : lN a * lN b = lN (a * b) := (Int64.ofNat_mul a b).symm
theorem ll_toInt {n : Nat} (h : n < 2 ^ 63) : (lN n).toInt = n := Int64.toInt_ofNat_of_lt h
theorem ll_div {a b : Nat} (ha : a < 2 ^ 63) (hb : b < 2 ^ 63) : lN a / lN b = lN (a / b) := by
  apply Int64.toInt_inj.mp
  rw [Int64.toInt_div_of_ne_left, ll_toInt ha, ll_toInt hb, ll_toInt (Nat.lt_of_le_of_lt (Nat.div_le_self _ _) ha), Int.ofNat_tdiv]
  intro z
  have := congrArg Int64.toInt z
  rw [ll_toInt ha] at this
  have e : Int64.minValue.toInt = -9223372036854775808 := by decide
  omega
theorem ll_rem {a b : Nat} (ha : a < 2 ^ 63) (hb : b < 2 ^ 63) : ma_lrem (lN a) (lN b) = lN (a % b) := by
  unfold ma_lrem
  rw [ll_div ha hb, ll_mul]
  have : a = a % b + a / b * b := by rw [Nat.mul_comm]; exact (Nat.mod_add_div a b).symm
  conv => lhs; lhs; rw [this, ← ll_add]
  exact Int64.add_sub_cancel _ _
theorem ll_i2l {k : Nat} (h : k < 2 ^ 31) : (nI k).toInt64 = lN k := by
  apply Int64.toInt_inj.mp
  rw [Int32.toInt_toInt64, ll_toInt (by omega)]
  exact Int32.toInt_ofNat_of_lt h
theorem ll_ne0 {d : Nat} (h0 : 0 < d) (hd : d < 2 ^ 63) : ¬ lN d = 0 := fun z => by
  have := congrArg Int64.toInt z
  rw [ll_toInt hd] at this
  have e : (0 : Int64).toInt = 0 := rfl
  omega
theorem iP {i : Int32} (h : (nI 0) ≤ i) : ∃ k, k < 2 ^ 31 ∧ i = nI k := by
  have h1 := Int32.le_iff_toInt_le.mp h
  have h2 := Int32.toInt_lt i
  rw [show (nI 0).toInt = 0 from rfl] at h1
  refine ⟨i.toInt.toNat, by omega, Int32.toInt_inj.mp ?_⟩
  rw [show (nI i.toInt.toNat).toInt = _ from Int32.toInt_ofNat_of_lt (by omega)]
  omega
def lcg (v : Nat) : Nat := (v * 1103515245 + 12345) % 2147483648
theorem lcg_lt (v : Nat) : lcg v < 2147483648 := Nat.mod_lt _ (by decide)
def sw (p : Nat → Nat) (k o : Nat) : Nat → Nat := fun i => if i = k then p o else if i = o then p k else p i
def sh : Nat → Nat → (Nat → Nat) → Nat → Nat
  | 0, _, p => p
  | k + 1, v, p => sh k (lcg v) (sw p (k + 1) (lcg v / 65536 % (k + 2)))
/-- p moves only what is below R -/
def pm (p : Nat → Nat) (R : Nat) : Prop := (∀ i, i < R → p i < R) ∧ (∀ i, R ≤ i → p i = i) ∧ ∀ i j, p i = p j → i = j
theorem pm_id (R : Nat) : pm (fun i => i) R := ⟨fun _ h => h, fun _ _ => rfl, fun _ _ h => h⟩
theorem pm_sw {p : Nat → Nat} {R k o : Nat} (hk : k < R) (ho : o < R) (h : pm p R) : pm (sw p k o) R := by
  obtain ⟨h1, h2, h3⟩ := h
  refine ⟨fun i hi => ?_, fun i hi => ?_, fun i j e => ?_⟩
  · unfold sw
    split
    · exact h1 o ho
    · split
      · exact h1 k hk
      · exact h1 i hi
  · unfold sw
    rw [if_neg (by omega), if_neg (by omega)]
    exact h2 i hi
  · unfold sw at e
    by_cases a1 : i = k
    · rw [if_pos a1] at e
      by_cases b1 : j = k
      · omega
      · rw [if_neg b1] at e
        by_cases b2 : j = o
        · rw [if_pos b2] at e
          have := h3 _ _ e
          omega
        · rw [if_neg b2] at e
          have := h3 _ _ e
          omega
    · rw [if_neg a1] at e
      by_cases a2 : i = o
      · rw [if_pos a2] at e
        by_cases b1 : j = k
        · rw [if_pos b1] at e
          have := h3 _ _ e
          omega
        · rw [if_neg b1] at e
          by_cases b2 : j = o
          · omega
          · rw [if_neg b2] at e
            have := h3 _ _ e
            omega
      · rw [if_neg a2] at e
        by_cases b1 : j = k
        · rw [if_pos b1] at e
          have := h3 _ _ e
          omega
        · rw [if_neg b1] at e
          by_cases b2 : j = o
          · rw [if_pos b2] at e
            have := h3 _ _ e
            omega
          · rw [if_neg b2] at e
            exact h3 _ _ e
theorem pm_sh {R : Nat} : ∀ k v p, k < R ∨ k = 0 → pm p R → pm (sh k v p) R
  | 0, _, _, _, h => h
  | k + 1, v, p, hk, h => by
    have := Nat.mod_lt (lcg v / 65536) (show k + 2 > 0 by omega)
    exact pm_sh k (lcg v) _ (by omega) (pm_sw (by omega) (by omega) h)
