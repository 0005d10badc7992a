/-! Gauss: rows of seven, the set of the vectors that all rows send to 0 -/
def ga_sat (A : Nat → Nat → Nat) (u : Nat → Nat) : Prop := ∀ j, j < 6 → gf_s 7 (fun c => gf_m (A j c) (u c)) = 0
def ga_lt (A : Nat → Nat → Nat) : Prop := ∀ j c, A j c < 256
def ga_sw (A : Nat → Nat → Nat) (r k : Nat) : Nat → Nat → Nat := fun j c => if j = r then A k c else if j = k then A r c else A j c
def ga_sc (A : Nat → Nat → Nat) (k t : Nat) : Nat → Nat → Nat := fun j c => if j = k then gf_m (A k c) t else A j c
def ga_el (A : Nat → Nat → Nat) (k o : Nat) : Nat → Nat → Nat := fun j c => if j = o ∧ o ≠ k then A o c ^^^ gf_m (A o k) (A k c) else A j c
theorem ga_sw_lt {A : Nat → Nat → Nat} (h : ga_lt A) (r k : Nat) : ga_lt (ga_sw A r k) := fun j c => by
  unfold ga_sw
  split
  · exact h _ _
  · split <;> exact h _ _
theorem ga_sc_lt {A : Nat → Nat → Nat} (h : ga_lt A) (k t : Nat) : ga_lt (ga_sc A k t) := fun j c => by
  unfold ga_sc
  split
  · exact gf_m_lt _ _
  · exact h _ _
theorem ga_el_lt {A : Nat → Nat → Nat} (h : ga_lt A) (k o : Nat) : ga_lt (ga_el A k o) := fun j c => by
  unfold ga_el
  split
  · exact gf_xor_lt (h _ _) (gf_m_lt _ _)
  · exact h _ _
theorem ga_sw_sat {A : Nat → Nat → Nat} {r k : Nat} (hr : r < 6) (hk : k < 6) (u : Nat → Nat) : ga_sat (ga_sw A r k) u ↔ ga_sat A u := by
  have key : ∀ B : Nat → Nat → Nat, ga_sat B u → ga_sat (ga_sw B r k) u := by
    intro B h j hj
    by_cases e1 : j = r
    · rw [gf_s_congr (fun c _ => by rw [show ga_sw B r k j c = B k c from if_pos e1])]
      exact h k hk
    · by_cases e2 : j = k
      · rw [gf_s_congr (fun c _ => by rw [show ga_sw B r k j c = B r c from (if_neg e1).trans (if_pos e2)])]
        exact h r hr
      · rw [gf_s_congr (fun c _ => by rw [show ga_sw B r k j c = B j c from (if_neg e1).trans (if_neg e2)])]
        exact h j hj
  refine ⟨fun h => ?_, key A⟩
  have h2 := key _ h
  have e : ga_sw (ga_sw A r k) r k = A := by
    funext j c
    unfold ga_sw
    by_cases e1 : j = r
    · subst e1
      by_cases e2 : k = j
      · subst e2; simp
      · simp [e2]
    · by_cases e2 : j = k
      · subst e2; simp [e1]
      · simp [e1, e2]
  rw [e] at h2
  exact h2
theorem ga_sc_sat {A : Nat → Nat → Nat} (hA : ga_lt A) {k t : Nat} (ht : t < 256) (t0 : t ≠ 0) (hk : k < 6) {u : Nat → Nat} (hu : ∀ c, u c < 256) : ga_sat (ga_sc A k t) u ↔ ga_sat A u := by
  have e : gf_s 7 (fun c => gf_m (ga_sc A k t k c) (u c)) = gf_m t (gf_s 7 (fun c => gf_m (A k c) (u c))) := by
    rw [gf_s_mul ht (fun _ _ => gf_m_lt _ _)]
    refine gf_s_congr (fun c _ => ?_)
    rw [show ga_sc A k t k c = gf_m (A k c) t from if_pos rfl, gf_m_comm (A k c) t, gf_m_assoc ht (hA _ _) (hu _)]
  have o : ∀ j, j ≠ k → gf_s 7 (fun c => gf_m (ga_sc A k t j c) (u c)) = gf_s 7 (fun c => gf_m (A j c) (u c)) := fun j hj => gf_s_congr (fun c _ => by rw [show ga_sc A k t j c = A j c from if_neg hj])
  constructor
  · intro h j hj
    by_cases ej : j = k
    · subst ej
      have h1 := h j hj
      rw [e] at h1
      exact (gf_m_eq_zero.mp h1).resolve_left t0
    · rw [← o j ej]; exact h j hj
  · intro h j hj
    by_cases ej : j = k
    · subst ej
      rw [e, h j hj, gf_m_zero_right]
    · rw [o j ej]; exact h j hj
theorem ga_el_sat {A : Nat → Nat → Nat} (hA : ga_lt A) {k o : Nat} (hk : k < 6) {u : Nat → Nat} (hu : ∀ c, u c < 256) : ga_sat (ga_el A k o) u ↔ ga_sat A u := by
  by_cases hok : o = k
  · have e : ga_el A k o = A := by
      funext j c
      unfold ga_el
      rw [if_neg (fun q => q.2 hok)]
    rw [e]
  · have e : gf_s 7 (fun c => gf_m (ga_el A k o o c) (u c)) = gf_s 7 (fun c => gf_m (A o c) (u c)) ^^^ gf_m (A o k) (gf_s 7 (fun c => gf_m (A k c) (u c))) := by
      rw [gf_s_mul (hA _ _) (fun _ _ => gf_m_lt _ _), ← gf_s_xor]
      refine gf_s_congr (fun c _ => ?_)
      rw [show ga_el A k o o c = A o c ^^^ gf_m (A o k) (A k c) from if_pos ⟨rfl, hok⟩, gf_distrib' (hu _) (hA _ _) (gf_m_lt _ _), gf_m_assoc (hA _ _) (hA _ _) (hu _)]
    have q : ∀ j, j ≠ o → gf_s 7 (fun c => gf_m (ga_el A k o j c) (u c)) = gf_s 7 (fun c => gf_m (A j c) (u c)) := fun j hj => gf_s_congr (fun c _ => by rw [show ga_el A k o j c = A j c from if_neg (fun z => hj z.1)])
    constructor
    · intro h j hj
      have hk0 : gf_s 7 (fun c => gf_m (A k c) (u c)) = 0 := by rw [← q k (fun z => hok z.symm)]; exact h k hk
      by_cases ej : j = o
      · subst ej
        have h1 := h j hj
        rw [e, hk0, gf_m_zero_right, Nat.xor_zero] at h1
        exact h1
      · rw [← q j ej]; exact h j hj
    · intro h j hj
      by_cases ej : j = o
      · subst ej
        rw [e, h j hj, h k hk, gf_m_zero_right]
        rfl
      · rw [q j ej]; exact h j hj
/-- the columns up to k are those of the unit, those from n to 5 are 0 -/
def ga_un (A : Nat → Nat → Nat) (k n : Nat) : Prop := (∀ j i, j < 6 → i < k → A j i = if j = i then 1 else 0) ∧ ∀ j i, j < 6 → n ≤ i → i < 6 → A j i = 0
/-- the equations of a column at n places -/
def ga_0 (S p : Nat → Nat) (n : Nat) : Nat → Nat → Nat := fun j c => if c < n then gf_ex (j * p c) else if c < 6 then 0 else S j
theorem ga_0_lt {S p : Nat → Nat} {n : Nat} (hS : ∀ j, S j < 256) : ga_lt (ga_0 S p n) := fun j c => by
  unfold ga_0
  split
  · exact (gf_ex_pos _).2
  · split
    · decide
    · exact hS _
theorem ga_0_sum {S p u : Nat → Nat} {n : Nat} (hn : n ≤ 6) (j : Nat) : gf_s 7 (fun c => gf_m (ga_0 S p n j c) (u c)) = gf_s n (fun k => gf_m (gf_ex (j * p k)) (u k)) ^^^ gf_m (S j) (u 6) := by
  have e1 : gf_s 7 (fun c => gf_m (ga_0 S p n j c) (u c)) = gf_s 6 (fun c => gf_m (ga_0 S p n j c) (u c)) ^^^ gf_m (ga_0 S p n j 6) (u 6) := rfl
  rw [e1, show ga_0 S p n j 6 = S j from (if_neg (by omega)).trans (if_neg (by omega)), gf_s_ext hn (fun i h1 h2 => by rw [show ga_0 S p n j i = 0 from (if_neg (by omega)).trans (if_pos h2), gf_m_zero_left])]
  congr 1
  exact gf_s_congr (fun i hi => by rw [show ga_0 S p n j i = gf_ex (j * p i) from if_pos hi])
/-- a word at the places -/
def ga_w (p v : Nat → Nat) (n : Nat) : Nat → Nat := fun s => gf_s n (fun k => if p k = s then v k else 0)
theorem ga_w_lt {p v : Nat → Nat} {n : Nat} (hv : ∀ k, k < n → v k < 256) (s : Nat) : ga_w p v n s < 256 := gf_s_lt (fun k hk => by split; exact hv k hk; decide)
theorem ga_w_sy {p v : Nat → Nat} {n : Nat} (hv : ∀ k, k < n → v k < 256) (hp : ∀ k, k < n → p k < 16) (j : Nat) : gf_sy (ga_w p v n) j = gf_s n (fun k => gf_m (gf_ex (j * p k)) (v k)) := by
  unfold gf_sy ga_w
  have e1 : gf_s 16 (fun s => gf_m (gf_s n (fun k => if p k = s then v k else 0)) (gf_ex (j * s))) = gf_s 16 (fun s => gf_s n (fun k => if p k = s then gf_m (gf_ex (j * p k)) (v k) else 0)) := by
    refine gf_s_congr (fun s _ => ?_)
    rw [gf_m_comm, gf_s_mul (gf_ex_pos _).2 (fun k hk => by split; exact hv k hk; decide)]
    refine gf_s_congr (fun k _ => ?_)
    by_cases e : p k = s
    · rw [if_pos e, if_pos e, e]
    · rw [if_neg e, if_neg e, gf_m_zero_right]
  rw [e1, gf_s_swap]
  refine gf_s_congr (fun k hk => ?_)
  rw [gf_s_one (hp k hk) (fun s _ hs => if_neg (fun e => hs e.symm)), if_pos rfl]
theorem ga_w_at {p v : Nat → Nat} {n k : Nat} (hk : k < n) (hi : ∀ a b, a < n → b < n → p a = p b → a = b) : ga_w p v n (p k) = v k := by
  unfold ga_w
  rw [gf_s_one hk (fun a ha hak => if_neg (fun e => hak (hi a k ha hk e))), if_pos rfl]
theorem ga_w_out {p v : Nat → Nat} {n s : Nat} (h : ∀ k, k < n → p k ≠ s) : ga_w p v n s = 0 := gf_s_zero (fun k hk => if_neg (h k hk))
/-- one of the places -/
def ga_in (p : Nat → Nat) : Nat → Nat → Bool
  | 0, _ => false
  | m + 1, s => (s == p m) || ga_in p m s
theorem gf_cn_eq1 (r : Nat) : ∀ n, gf_cn n (fun s => s == r) ≤ 1 ∧ (n ≤ r → gf_cn n (fun s => s == r) = 0) := by
  intro n
  induction n with
  | zero => exact ⟨Nat.zero_le _, fun _ => rfl⟩
  | succ n ih =>
    simp only [gf_cn]
    by_cases hk : n = r
    · subst hk
      rw [ih.2 (Nat.le_refl _)]
      simp
    · have e : ¬ (n == r) = true := by simpa using hk
      rw [if_neg e]
      exact ⟨ih.1, fun q => ih.2 (by omega)⟩
theorem ga_in_cn (p : Nat → Nat) : ∀ m, gf_cn 16 (ga_in p m) ≤ m
  | 0 => by
    have := gf_cn_le (n := 16) (p := ga_in p 0) (q := fun _ => false) (fun s _ h => h)
    exact Nat.le_trans this (by decide)
  | m + 1 => by
    have a2 := gf_cn_or 16 (fun s => s == p m) (ga_in p m)
    have a4 := (gf_cn_eq1 (p m) 16).1
    have a5 := ga_in_cn p m
    have e : gf_cn 16 (ga_in p (m + 1)) = gf_cn 16 (fun s => (s == p m) || ga_in p m s) := rfl
    omega
theorem ga_in_no {p : Nat → Nat} {s : Nat} : ∀ {m : Nat}, ga_in p m s = false → ∀ k, k < m → p k ≠ s
  | 0, _, k, hk => by omega
  | m + 1, h, k, hk => by
    rw [ga_in, Bool.or_eq_false_iff] at h
    by_cases e : k = m
    · subst e
      intro e2
      have := h.1
      rw [e2] at this
      simp at this
    · exact ga_in_no h.2 k (by omega)
theorem ga_in_yes {p : Nat → Nat} {s : Nat} : ∀ {m : Nat}, ga_in p m s = true → ∃ k, k < m ∧ p k = s
  | m + 1, h => by
    rw [ga_in, Bool.or_eq_true] at h
    rcases h with h | h
    · exact ⟨m, by omega, (beq_iff_eq.mp h).symm⟩
    · obtain ⟨k, hk, e⟩ := ga_in_yes h
      exact ⟨k, by omega, e⟩
/-- no place is wanting: a column of the equations has its pivot -/
theorem ga_pivot {S p : Nat → Nat} {n k : Nat} {A : Nat → Nat → Nat} (hA : ga_lt A) (hn : n ≤ 6) (hp : ∀ k, k < n → p k < 16) (hi : ∀ a b, a < n → b < n → p a = p b → a = b) (hs : ∀ u, (∀ c, u c < 256) → ga_sat A u → ga_sat (ga_0 S p n) u) (hu : ga_un A k n) (hk : k < n) (h0 : ∀ r, k ≤ r → r < 6 → A r k = 0) : False := by
  have hul : ∀ c, (fun c => if c < k then A c k else if c = k then 1 else 0) c < 256 := fun c => by
    show (if c < k then A c k else if c = k then 1 else 0) < 256
    split
    · exact hA _ _
    · split <;> decide
  have h1 := hs (fun c => if c < k then A c k else if c = k then 1 else 0) hul (fun j hj => by
    rw [gf_s_ext (a := k + 1) (by omega) (fun i h1 h2 => by dsimp only; rw [if_neg (by omega), if_neg (by omega), gf_m_zero_right])]
    rw [gf_s]
    dsimp only
    rw [if_neg (by omega), if_pos rfl, gf_m_one (hA _ _)]
    by_cases hjk : j < k
    · rw [gf_s_one hjk (fun i hi hij => by rw [hu.1 j i hj hi, if_neg (fun e => hij e.symm), gf_m_zero_left]), hu.1 j j hj hjk, if_pos rfl, if_pos hjk, gf_one_m (hA _ _), Nat.xor_self]
    · rw [gf_s_zero (fun i hi => by rw [hu.1 j i hj hi, if_neg (by omega), gf_m_zero_left]), h0 j (by omega) hj]
      rfl)
  have hw := gf_vd 6 (ga_w p (fun c => if c < k then A c k else if c = k then 1 else 0) n) (fun s _ => ga_w_lt (fun c _ => hul c) s) ?_ (fun j hj => by
    have h2 := h1 j hj
    rw [ga_0_sum hn] at h2
    rw [if_neg (by omega), if_neg (by omega), gf_m_zero_right, Nat.xor_zero] at h2
    rw [ga_w_sy (fun c _ => hul c) hp]
    exact h2)
  · have h3 := hw (p k) (hp k hk)
    rw [ga_w_at hk hi] at h3
    rw [if_neg (by omega), if_pos rfl] at h3
    cases h3
  · refine Nat.le_trans (gf_cn_le (n := 16) (q := ga_in p n) (fun s _ h => ?_)) (Nat.le_trans (ga_in_cn p n) hn)
    cases hb : ga_in p n s
    · rw [ga_w_out (ga_in_no hb)] at h
      simp at h
    · rfl
/-- at the end: what the last column says -/
theorem ga_end {S p : Nat → Nat} {n : Nat} {A : Nat → Nat → Nat} (hA : ga_lt A) (hn : n ≤ 6) (hs : ∀ u, (∀ c, u c < 256) → (ga_sat A u ↔ ga_sat (ga_0 S p n) u)) (hu : ga_un A n n) (v : Nat → Nat) (hv : ∀ k, k < n → v k < 256) :
    (∀ j, j < 6 → gf_s n (fun k => gf_m (gf_ex (j * p k)) (v k)) ^^^ gf_m (S j) 1 = 0) ↔ ((∀ k, k < n → v k = A k 6) ∧ ∀ j, n ≤ j → j < 6 → A j 6 = 0) := by
  have hul : ∀ c, (fun c => if c < n then v c else if c = 6 then 1 else 0) c < 256 := fun c => by
    show (if c < n then v c else if c = 6 then 1 else 0) < 256
    split
    · exact hv c (by assumption)
    · split <;> decide
  have h1 := hs _ hul
  have e0 : ga_sat (ga_0 S p n) (fun c => if c < n then v c else if c = 6 then 1 else 0) ↔ ∀ j, j < 6 → gf_s n (fun k => gf_m (gf_ex (j * p k)) (v k)) ^^^ gf_m (S j) 1 = 0 := by
    have e : ∀ j, gf_s 7 (fun c => gf_m (ga_0 S p n j c) ((fun c => if c < n then v c else if c = 6 then 1 else 0) c)) = gf_s n (fun k => gf_m (gf_ex (j * p k)) (v k)) ^^^ gf_m (S j) 1 := fun j => by
      rw [ga_0_sum (u := fun c => if c < n then v c else if c = 6 then 1 else 0) hn]
      rw [if_neg (by omega), if_pos rfl]
      congr 1
      exact gf_s_congr (fun k hk => by rw [if_pos hk])
    exact ⟨fun h j hj => by rw [← e j]; exact h j hj, fun h j hj => by rw [e j]; exact h j hj⟩
  rw [← e0, ← h1]
  have row : ∀ j, j < 6 → gf_s 7 (fun c => gf_m (A j c) ((fun c => if c < n then v c else if c = 6 then 1 else 0) c)) = (if j < n then v j else 0) ^^^ A j 6 := by
    intro j hj
    have e1 : gf_s 7 (fun c => gf_m (A j c) ((fun c => if c < n then v c else if c = 6 then 1 else 0) c)) = gf_s 6 (fun c => gf_m (A j c) (if c < n then v c else if c = 6 then 1 else 0)) ^^^ gf_m (A j 6) (if 6 < n then v 6 else if 6 = 6 then 1 else 0) := rfl
    rw [e1, if_neg (by omega), if_pos rfl, gf_m_one (hA _ _), gf_s_ext hn (fun i h1 h2 => by rw [hu.2 j i hj h1 h2, gf_m_zero_left])]
    congr 1
    by_cases hjn : j < n
    · rw [gf_s_one hjn (fun i hi hij => by rw [hu.1 j i hj hi, if_neg (fun e => hij e.symm), gf_m_zero_left]), hu.1 j j hj hjn, if_pos rfl, if_pos hjn, if_pos hjn, gf_one_m (hv j hjn)]
    · rw [gf_s_zero (fun i hi => by rw [hu.1 j i hj hi, if_neg (by omega), gf_m_zero_left]), if_neg hjn]
  constructor
  · intro h
    refine ⟨fun k hk => ?_, fun j h1 h2 => ?_⟩
    · have h2 := h k (by omega)
      rw [row k (by omega), if_pos hk] at h2
      exact gf_xeq h2
    · have h3 := h j h2
      rw [row j h2, if_neg (by omega), Nat.zero_xor] at h3
      exact h3
  · rintro ⟨h2, h3⟩ j hj
    rw [row j hj]
    by_cases hjn : j < n
    · rw [if_pos hjn, h2 j hjn, Nat.xor_self]
    · rw [if_neg hjn, h3 j (by omega) hj]
      rfl
