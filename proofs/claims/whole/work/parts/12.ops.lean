/-! differences of a sequence by places, the polynomials that they are, and roots -/
def gf_dq (x : Nat) (S : Nat → Nat) : Nat → Nat := fun j => S (j + 1) ^^^ gf_m x (S j)
def gf_dl : List Nat → (Nat → Nat) → Nat → Nat
  | [], S => S
  | t :: l, S => gf_dl l (gf_dq (gf_ex t) S)
def gf_pr : List Nat → Nat → Nat
  | [], _ => 1
  | t :: l, x => gf_m (x ^^^ gf_ex t) (gf_pr l x)
def gf_pc : List Nat → Nat → Nat
  | [], i => if i = 0 then 1 else 0
  | t :: l, i => (if i = 0 then 0 else gf_pc l (i - 1)) ^^^ gf_m (gf_ex t) (gf_pc l i)
theorem gf_pr_lt : ∀ (l : List Nat) (x : Nat), gf_pr l x < 256
  | [], _ => (by decide : (1 : Nat) < 256)
  | _ :: _, _ => gf_m_lt _ _
theorem gf_pc_lt : ∀ (l : List Nat) (i : Nat), gf_pc l i < 256
  | [], i => by unfold gf_pc; split <;> decide
  | t :: l, i => by
    unfold gf_pc
    refine gf_xor_lt ?_ (gf_m_lt _ _)
    split
    · decide
    · exact gf_pc_lt l _
theorem gf_pc_top : ∀ (l : List Nat), gf_pc l l.length = 1 ∧ ∀ i, l.length < i → gf_pc l i = 0
  | [] => ⟨rfl, fun i hi => by simp at hi; unfold gf_pc; rw [if_neg (by omega)]⟩
  | t :: l => by
    obtain ⟨h1, h2⟩ := gf_pc_top l
    refine ⟨?_, fun i hi => ?_⟩
    · rw [List.length_cons, gf_pc, if_neg (by omega), Nat.add_sub_cancel, h1, h2 _ (by omega), gf_m_zero_right]
      rfl
    · rw [List.length_cons] at hi
      rw [gf_pc, if_neg (by omega), h2 _ (by omega), h2 _ (by omega), gf_m_zero_right]
      rfl
theorem gf_dq_lt {x : Nat} {S : Nat → Nat} (hS : ∀ j, S j < 256) (j : Nat) : gf_dq x S j < 256 := gf_xor_lt (hS _) (gf_m_lt _ _)
theorem gf_dl_lt : ∀ (l : List Nat) {S : Nat → Nat}, (∀ j, S j < 256) → ∀ j, gf_dl l S j < 256
  | [], _, hS => hS
  | _ :: l, _, hS => gf_dl_lt l (gf_dq_lt hS)
theorem gf_dl_congr : ∀ (l : List Nat) {S S' : Nat → Nat} {j : Nat}, (∀ i, i ≤ l.length → S (j + i) = S' (j + i)) → gf_dl l S j = gf_dl l S' j
  | [], S, S', j, h => h 0 (Nat.le_refl _)
  | t :: l, S, S', j, h => by
    refine gf_dl_congr l (fun i hi => ?_)
    have h1 := h i (by simp; omega)
    have h2 := h (i + 1) (by simp; omega)
    unfold gf_dq
    rw [h1, show j + i + 1 = j + (i + 1) by omega, h2]
theorem gf_dl_xor : ∀ (l : List Nat) {S S' : Nat → Nat}, (∀ j, S j < 256) → (∀ j, S' j < 256) → ∀ j, gf_dl l (fun j => S j ^^^ S' j) j = gf_dl l S j ^^^ gf_dl l S' j
  | [], _, _, _, _, _ => rfl
  | t :: l, S, S', hS, hS', j => by
    have e : gf_dq (gf_ex t) (fun j => S j ^^^ S' j) = fun j => gf_dq (gf_ex t) S j ^^^ gf_dq (gf_ex t) S' j := by
      funext i
      unfold gf_dq
      rw [gf_distrib (gf_ex_pos _).2 (hS i) (hS' i), gf_x4]
    rw [gf_dl, e, gf_dl_xor l (gf_dq_lt hS) (gf_dq_lt hS')]
    rfl
theorem gf_dl_sy : ∀ (l : List Nat) {e : Nat → Nat}, (∀ s, s < 16 → e s < 256) → ∀ j, gf_dl l (gf_sy e) j = gf_sy (fun s => gf_m (e s) (gf_pr l (gf_ex s))) j
  | [], e, he, j => by
    show gf_sy e j = _
    unfold gf_sy
    exact gf_s_congr (fun s hs => by show _ = gf_m (gf_m (e s) 1) _; rw [gf_m_one (he s hs)])
  | t :: l, e, he, j => by
    have e1 : gf_dq (gf_ex t) (gf_sy e) = gf_sy (fun s => gf_m (e s) (gf_ex s ^^^ gf_ex t)) := by
      funext i
      rw [gf_sy_step he _ _ (gf_ex_pos t).2]
      rfl
    rw [gf_dl, e1, gf_dl_sy l (fun s _ => gf_m_lt _ _)]
    unfold gf_sy
    refine gf_s_congr (fun s hs => ?_)
    show gf_m (gf_m (gf_m (e s) (gf_ex s ^^^ gf_ex t)) (gf_pr l (gf_ex s))) _ = gf_m (gf_m (e s) (gf_m (gf_ex s ^^^ gf_ex t) (gf_pr l (gf_ex s)))) _
    rw [gf_m_assoc (he s hs) (gf_xor_lt (gf_ex_pos s).2 (gf_ex_pos t).2) (gf_pr_lt _ _)]
theorem gf_pr_zero : ∀ {l : List Nat} {s : Nat}, s ∈ l → gf_pr l (gf_ex s) = 0
  | t :: l, s, h => by
    rw [gf_pr, gf_m_eq_zero]
    rcases List.mem_cons.mp h with rfl | h
    · exact Or.inl (Nat.xor_self _)
    · exact Or.inr (gf_pr_zero h)
theorem gf_pr_ne : ∀ {l : List Nat} {s : Nat}, s < 16 → (∀ t ∈ l, t < 16) → s ∉ l → gf_pr l (gf_ex s) ≠ 0
  | [], _, _, _, _ => by show (1 : Nat) ≠ 0; decide
  | t :: l, s, hs, hl, h => by
    rw [gf_pr]
    intro q
    rcases gf_m_eq_zero.mp q with q | q
    · exact gf_ex_ne (by omega) (by have := hl t List.mem_cons_self; omega) (fun e => h (by rw [e]; exact List.mem_cons_self)) q
    · exact gf_pr_ne hs (fun t ht => hl t (List.mem_cons_of_mem _ ht)) (fun q => h (List.mem_cons_of_mem _ q)) q
/-- weighing with the coefficients is taking the differences -/
theorem gf_wg : ∀ (l : List Nat) {S : Nat → Nat}, (∀ j, S j < 256) → ∀ j, gf_s (l.length + 1) (fun i => gf_m (gf_pc l i) (S (j + i))) = gf_dl l S j
  | [], S, hS, j => by
    show gf_s 1 _ = S j
    simp only [gf_s, gf_pc, if_true, Nat.zero_xor, Nat.add_zero]
    exact gf_one_m (hS j)
  | t :: l, S, hS, j => by
    rw [gf_dl, ← gf_wg l (gf_dq_lt hS) j, List.length_cons]
    have ht := (gf_ex_pos t).2
    have e1 : gf_s (l.length + 1 + 1) (fun i => gf_m (gf_pc (t :: l) i) (S (j + i))) = gf_s (l.length + 1 + 1) (fun i => gf_m (if i = 0 then 0 else gf_pc l (i - 1)) (S (j + i))) ^^^ gf_s (l.length + 1 + 1) (fun i => gf_m (gf_ex t) (gf_m (gf_pc l i) (S (j + i)))) := by
      rw [← gf_s_xor]
      refine gf_s_congr (fun i hi => ?_)
      rw [gf_pc, gf_distrib' (hS _) (by split; decide; exact gf_pc_lt _ _) (gf_m_lt _ _), gf_m_assoc ht (gf_pc_lt _ _) (hS _)]
    rw [e1, gf_s_first (l.length + 1), if_pos rfl, gf_m_zero_left, Nat.zero_xor]
    rw [show gf_s (l.length + 1 + 1) (fun i => gf_m (gf_ex t) (gf_m (gf_pc l i) (S (j + i)))) = gf_s (l.length + 1) (fun i => gf_m (gf_ex t) (gf_m (gf_pc l i) (S (j + i)))) by
      rw [gf_s, (gf_pc_top l).2 (l.length + 1) (by omega), gf_m_zero_left, gf_m_zero_right, Nat.xor_zero]]
    rw [← gf_s_xor]
    refine gf_s_congr (fun i hi => ?_)
    rw [if_neg (by omega), Nat.add_sub_cancel]
    unfold gf_dq
    rw [gf_distrib (gf_pc_lt _ _) (hS _) (gf_m_lt _ _), show j + (i + 1) = j + i + 1 by omega, ← gf_m_assoc ht (gf_pc_lt _ _) (hS _), gf_m_comm (gf_ex t) (gf_pc l i), gf_m_assoc (gf_pc_lt _ _) ht (hS _)]
/-- differences 0 and a beginning 0: all 0 -/
theorem gf_dl_all : ∀ (l : List Nat) {S : Nat → Nat} {N : Nat}, (∀ j, j + l.length < N → gf_dl l S j = 0) → (∀ i, i < l.length → S i = 0) → ∀ i, i < N → S i = 0
  | [], S, N, h, _ => fun i hi => h i (by simpa using hi)
  | t :: l, S, N, h, h0 => by
    have h1 := gf_dl_all l (S := gf_dq (gf_ex t) S) (N := N - 1) (fun j hj => h j (by simp; omega)) (fun i hi => by
      have a := h0 i (by simp; omega)
      have b := h0 (i + 1) (by simp; omega)
      unfold gf_dq
      rw [a, b, gf_m_zero_right]
      rfl)
    intro i
    induction i with
    | zero => exact fun _ => h0 0 (by simp)
    | succ i ih =>
      intro hi
      have a := h1 i (by omega)
      unfold gf_dq at a
      rw [ih (by omega), gf_m_zero_right, Nat.xor_zero] at a
      exact a
/-- Horner's value -/
def gf_ho (C : Nat → Nat) : Nat → Nat → Nat
  | 0, _ => C 0
  | n + 1, x => gf_m (gf_ho C n x) x ^^^ C (n + 1)
theorem gf_ho_lt {C : Nat → Nat} (hC : ∀ i, C i < 256) : ∀ (n x : Nat), gf_ho C n x < 256
  | 0, _ => hC 0
  | _ + 1, _ => gf_xor_lt (gf_m_lt _ _) (hC _)
theorem gf_ho_div {C : Nat → Nat} (hC : ∀ i, C i < 256) {x r : Nat} (hx : x < 256) (hr : r < 256) : ∀ n, gf_ho C (n + 1) x = gf_m (x ^^^ r) (gf_ho (fun i => gf_ho C i r) n x) ^^^ gf_ho C (n + 1) r
  | 0 => by
    show gf_m (C 0) x ^^^ C 1 = gf_m (x ^^^ r) (C 0) ^^^ (gf_m (C 0) r ^^^ C 1)
    rw [gf_distrib' (hC 0) hx hr, gf_m_comm x, gf_m_comm r, Nat.xor_assoc, ← Nat.xor_assoc (gf_m (C 0) r), Nat.xor_self, Nat.zero_xor]
  | n + 1 => by
    have ih := gf_ho_div hC hx hr n
    have hb : ∀ i, gf_ho C i r < 256 := fun i => gf_ho_lt hC i r
    have hB := gf_ho_lt hb n x
    have hxr := gf_xor_lt hx hr
    rw [gf_ho, ih, gf_distrib' hx (gf_m_lt _ _) (hb _), gf_m_assoc hxr hB hx]
    rw [show gf_ho (fun i => gf_ho C i r) (n + 1) x = gf_m (gf_ho (fun i => gf_ho C i r) n x) x ^^^ gf_ho C (n + 1) r from rfl]
    rw [gf_distrib hxr (gf_m_lt _ _) (hb _), show gf_ho C (n + 1 + 1) r = gf_m (gf_ho C (n + 1) r) r ^^^ C (n + 2) from rfl]
    rw [gf_distrib' (hb _) hx hr, gf_m_comm x (gf_ho C (n + 1) r), gf_m_comm r (gf_ho C (n + 1) r)]
    generalize gf_m (x ^^^ r) (gf_m (gf_ho (fun i => gf_ho C i r) n x) x) = A
    generalize gf_m (gf_ho C (n + 1) r) x = B
    generalize gf_m (gf_ho C (n + 1) r) r = D
    rw [Nat.xor_assoc, Nat.xor_assoc, Nat.xor_assoc, ← Nat.xor_assoc D D, Nat.xor_self, Nat.zero_xor]
/-- no more roots than the degree -/
theorem gf_roots : ∀ (n : Nat) {C : Nat → Nat}, (∀ i, C i < 256) → C 0 ≠ 0 → gf_cn 16 (fun s => gf_ho C n (gf_ex s) == 0) ≤ n
  | 0, C, _, h0 => by
    have := gf_cn_le (n := 16) (p := fun s => gf_ho C 0 (gf_ex s) == 0) (q := fun _ => false) (fun i _ h => absurd (show C 0 = 0 from (beq_iff_eq.mp h)) h0)
    exact Nat.le_trans this (by decide)
  | n + 1, C, hC, h0 => by
    by_cases hr : ∃ s, s < 16 ∧ gf_ho C (n + 1) (gf_ex s) = 0
    · obtain ⟨r, hr1, hr2⟩ := hr
      have ih := gf_roots n (C := fun i => gf_ho C i (gf_ex r)) (fun i => gf_ho_lt hC i _) h0
      have h1 := gf_cn_le (n := 16) (p := fun s => gf_ho C (n + 1) (gf_ex s) == 0) (q := fun s => (s == r) || (gf_ho (fun i => gf_ho C i (gf_ex r)) n (gf_ex s) == 0)) (fun s hs h => by
        simp only [beq_iff_eq, Bool.or_eq_true] at h ⊢
        by_cases hsr : s = r
        · exact Or.inl hsr
        · refine Or.inr ?_
          rw [gf_ho_div hC (gf_ex_pos s).2 (gf_ex_pos r).2, hr2, Nat.xor_zero] at h
          rcases gf_m_eq_zero.mp h with q | q
          · exact absurd q (gf_ex_ne (by omega) (by omega) hsr)
          · exact q)
      have h2 := gf_cn_or 16 (fun s => s == r) (fun s => gf_ho (fun i => gf_ho C i (gf_ex r)) n (gf_ex s) == 0)
      have h3 : ∀ k r, gf_cn k (fun s => s == r) ≤ 1 ∧ (k ≤ r → gf_cn k (fun s => s == r) = 0) := by
        intro k r
        induction k with
        | zero => exact ⟨Nat.zero_le _, fun _ => rfl⟩
        | succ k ih =>
          simp only [gf_cn]
          by_cases hk : k = r
          · subst hk
            rw [ih.2 (Nat.le_refl _)]
            simp
          · have e : ¬ (k == r) = true := by simpa using hk
            rw [if_neg e]
            exact ⟨ih.1, fun q => ih.2 (by omega)⟩
      have h4 := (h3 16 r).1
      omega
    · have := gf_cn_le (n := 16) (p := fun s => gf_ho C (n + 1) (gf_ex s) == 0) (q := fun _ => false) (fun i hi h => absurd ⟨i, hi, by simpa using h⟩ hr)
      exact Nat.le_trans this (by simp [gf_cn])
/-- a recurrence over a power sequence -/
theorem gf_ho_sum {C : Nat → Nat} (hC : ∀ i, C i < 256) (s n : Nat) : ∀ L, L ≤ n → gf_s (L + 1) (fun i => gf_m (C i) (gf_ex ((n - i) * s))) = gf_m (gf_ho C L (gf_ex s)) (gf_ex ((n - L) * s))
  | 0, _ => by simp [gf_s, gf_ho]
  | L + 1, h => by
    rw [gf_s, gf_ho_sum hC s n L (by omega), gf_ho, gf_distrib' (gf_ex_pos _).2 (gf_m_lt _ _) (hC _), gf_m_assoc (gf_ho_lt hC _ _) (gf_ex_pos _).2 (gf_ex_pos _).2, gf_ex_add, show s + (n - (L + 1)) * s = (n - L) * s by rw [show n - L = (n - (L + 1)) + 1 by omega, Nat.add_mul]; omega]
theorem gf_rec_sy {C f : Nat → Nat} (hC : ∀ i, C i < 256) (hf : ∀ s, s < 16 → f s < 256) {L n : Nat} (h : L ≤ n) : gf_s (L + 1) (fun i => gf_m (C i) (gf_sy f (n - i))) = gf_sy (fun s => gf_m (f s) (gf_ho C L (gf_ex s))) (n - L) := by
  have e1 : gf_s (L + 1) (fun i => gf_m (C i) (gf_sy f (n - i))) = gf_s (L + 1) (fun i => gf_s 16 (fun s => gf_m (f s) (gf_m (C i) (gf_ex ((n - i) * s))))) := by
    refine gf_s_congr (fun i hi => ?_)
    unfold gf_sy
    rw [gf_s_mul (hC i) (fun _ _ => gf_m_lt _ _)]
    refine gf_s_congr (fun s hs => ?_)
    rw [← gf_m_assoc (hC i) (hf s hs) (gf_ex_pos _).2, gf_m_comm (C i) (f s), gf_m_assoc (hf s hs) (hC i) (gf_ex_pos _).2]
  rw [e1, gf_s_swap]
  unfold gf_sy
  refine gf_s_congr (fun s hs => ?_)
  rw [← gf_s_mul (hf s hs) (fun _ _ => gf_m_lt _ _), gf_ho_sum hC s n L h, gf_m_assoc (hf s hs) (gf_ho_lt hC _ _) (gf_ex_pos _).2]
