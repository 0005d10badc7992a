/-! the class's Row -/
def rl (lo hi k : Nat) : Nat := if k < 32 then lo / 2 ^ (2 * k) % 4 else hi / 2 ^ (2 * (k - 32)) % 4
theorem rl_lt (lo hi k : Nat) : rl lo hi k < 4 := by
  unfold rl
  split <;> exact Nat.mod_lt _ (by decide)
def onr (h h' : ma_H) (L : List Nat) : Prop := h'.2.2 = h.2.2 ∧ (∀ a, a ∉ L → h'.1 a = h.1 a) ∧ ∀ a, a ∉ L → h'.2.1 a = h.2.1 a
theorem onr_rf (h : ma_H) (L : List Nat) : onr h h L := ⟨rfl, fun _ _ => rfl, fun _ _ => rfl⟩
theorem onr_on {h h' : ma_H} {L : List Nat} (ho : on h h' L) : onr h h' L := ⟨by rw [ho.1], ho.2, fun _ _ => by rw [ho.1]⟩
theorem onr_tr {h h1 h2 : ma_H} {L : List Nat} (a : onr h h1 L) (b : onr h1 h2 L) : onr h h2 L := ⟨b.1.trans a.1, fun q hq => (b.2.1 q hq).trans (a.2.1 q hq), fun q hq => (b.2.2 q hq).trans (a.2.2 q hq)⟩
theorem onr_mo {h h1 : ma_H} {L L' : List Nat} (a : onr h h1 L) (hL : ∀ q, q ∈ L → q ∈ L') : onr h h1 L' := ⟨a.1, fun q hq => a.2.1 q (fun z => hq (hL q z)), fun q hq => a.2.2 q (fun z => hq (hL q z))⟩
theorem onr_pt {h h' : ma_H} {L : List Nat} (ho : onr h h' L) (hp : pt_ok h) : pt_ok h' := fun a k h1 h2 => by rw [ho.1]; exact hp a k h1 h2
theorem onr_uI {h h' : ma_H} {L : List Nat} (ho : onr h h' L) {a : Nat} (k : Nat) (v : Int32) (ha : a ∈ L) : onr h (ma_uI h' a k v) L := by
  refine onr_tr ho ⟨rfl, fun b hb => ?_, fun _ _ => rfl⟩
  have : b ≠ a := fun e => hb (by rw [e]; exact ha)
  funext j
  exact uI_ne (fun q => this q.1)
theorem uL_same (h : ma_H) (a k : Nat) (v : Int64) : (ma_uL h a k v).2.1 a k = v := by simp [ma_uL]
theorem uL_ne {h : ma_H} {a k b j : Nat} {v : Int64} (hn : ¬ (b = a ∧ j = k)) : (ma_uL h a k v).2.1 b j = h.2.1 b j := by simp [ma_uL, hn]
theorem onr_uL {h h' : ma_H} {L : List Nat} (ho : onr h h' L) {a : Nat} (k : Nat) (v : Int64) (ha : a ∈ L) : onr h (ma_uL h' a k v) L := by
  refine onr_tr ho ⟨rfl, fun _ _ => rfl, fun b hb => ?_⟩
  have : b ≠ a := fun e => hb (by rw [e]; exact ha)
  funext j
  exact uL_ne (fun q => this q.1)
def isr (a : Nat) : Prop := (5 ≤ a ∧ a ≤ 68) ∨ (70 ≤ a ∧ a ≤ 159)
/-- the row a has n letters f, and no bit above them -/
def rz (h : ma_H) (a n : Nat) (f : Nat → Nat) : Prop := h.1 a 2 = nI n ∧ ∃ lo hi, lo < 2 ^ (2 * min n 32) ∧ hi < 2 ^ (2 * (n - 32)) ∧ h.2.1 a 0 = lN lo ∧ h.2.1 a 1 = lN hi ∧ ∀ k, k < n → rl lo hi k = f k
/-- the row a has n letters f -/
def rf (h : ma_H) (a n : Nat) (f : Nat → Nat) : Prop := h.1 a 2 = nI n ∧ ∃ lo hi, lo < 2 ^ 64 ∧ hi < 2 ^ 64 ∧ h.2.1 a 0 = lN lo ∧ h.2.1 a 1 = lN hi ∧ ∀ k, k < n → rl lo hi k = f k
theorem pw64 {k : Nat} (h : k ≤ 64) : 2 ^ k ≤ 2 ^ 64 := Nat.pow_le_pow_right (by decide) h
theorem rz_rf {h : ma_H} {a n : Nat} {f : Nat → Nat} (hn : n ≤ 60) (hz : rz h a n f) : rf h a n f := by
  obtain ⟨e, lo, hi, h1, h2, r⟩ := hz
  exact ⟨e, lo, hi, Nat.lt_of_lt_of_le h1 (pw64 (by omega)), Nat.lt_of_lt_of_le h2 (pw64 (by omega)), r⟩
theorem rf_lt {h : ma_H} {a n : Nat} {f : Nat → Nat} (hz : rf h a n f) {k : Nat} (hk : k < n) : f k < 4 := by
  obtain ⟨e, lo, hi, h1, h2, h3, h4, r⟩ := hz
  rw [← r k hk]
  exact rl_lt _ _ _
theorem rf_onr {h h' : ma_H} {L : List Nat} (ho : onr h h' L) {a n : Nat} {f : Nat → Nat} (ha : a ∉ L) (hr : rf h a n f) : rf h' a n f := by
  unfold rf
  rw [ho.2.1 a ha, ho.2.2 a ha]
  exact hr
theorem rz_0 {h : ma_H} {a : Nat} {f : Nat → Nat} (e : h.1 a 2 = nI 0) (e1 : h.2.1 a 0 = 0) (e2 : h.2.1 a 1 = 0) : rz h a 0 f := ⟨e, 0, 0, by decide, by decide, e1, e2, fun k hk => by omega⟩
theorem bt_lo {lo c n : Nat} (h : lo < 2 ^ (2 * n)) : lo ||| c * 2 ^ (2 * n) = lo + c * 2 ^ (2 * n) := by
  have := Nat.two_pow_add_eq_or_of_lt h c
  rw [Nat.or_comm, Nat.mul_comm, ← this, Nat.add_comm]
theorem bt_lt {lo c n : Nat} (h : lo < 2 ^ (2 * n)) (hc : c < 4) : lo + c * 2 ^ (2 * n) < 2 ^ (2 * (n + 1)) := by
  rw [show 2 * (n + 1) = 2 * n + 2 by omega, Nat.pow_add]
  have : c * 2 ^ (2 * n) ≤ 3 * 2 ^ (2 * n) := Nat.mul_le_mul_right _ (by omega)
  omega
theorem bt_at {lo c n k : Nat} (h : lo < 2 ^ (2 * n)) (hc : c < 4) (hk : k ≤ n) : (lo + c * 2 ^ (2 * n)) / 2 ^ (2 * k) % 4 = if k = n then c else lo / 2 ^ (2 * k) % 4 := by
  have hp : 0 < 2 ^ (2 * k) := Nat.pow_pos (by decide)
  by_cases e : k = n
  · subst e
    rw [if_pos rfl, Nat.add_mul_div_right _ _ hp, Nat.div_eq_of_lt h]
    omega
  · rw [if_neg e, show 2 * n = 2 * k + (2 + (2 * (n - k - 1))) by omega, Nat.pow_add, Nat.pow_add, show c * (2 ^ (2 * k) * (2 ^ 2 * 2 ^ (2 * (n - k - 1)))) = 2 ^ (2 * k) * (4 * (c * 2 ^ (2 * (n - k - 1)))) by rw [Nat.mul_left_comm, Nat.mul_left_comm c], Nat.add_mul_div_left _ _ hp, Nat.add_mul_mod_self_left]
theorem lu_at {v i : Nat} (hv : v < 2 ^ 64) (hi : i < 32) : (ma_lushr (lN v) (nI (2 * i)) &&& lN 3).toInt32 = nI (v / 2 ^ (2 * i) % 4) := by
  have e : ma_lushr (lN v) (nI (2 * i)) = lN (v / 2 ^ (2 * i)) := wb_shr hv (by omega)
  rw [e, show lN 3 = lN (2 ^ 2 - 1) from rfl, wb_mask (Nat.lt_of_le_of_lt (Nat.div_le_self _ _) hv) (by decide), nx_l2i]
theorem ls_at {v n c : Nat} (hv : v < 2 ^ (2 * n)) (hn : n < 32) (hc : c < 4) : lN v ||| ma_lshl (nI c).toInt64 (nI (2 * n)) = lN (v + c * 2 ^ (2 * n)) := by
  have i1 : (nI c).toInt64 = lN c := by
    have : ∀ c, c < 4 → (nI c).toInt64 = lN c := by decide +kernel
    exact this c hc
  have b := bt_lt hv hc
  have q := pw64 (show 2 * (n + 1) ≤ 64 by omega)
  have e : ma_lshl (lN c) (nI (2 * n)) = lN (c * 2 ^ (2 * n)) := wb_shl c (by omega)
  rw [i1, e, wb_or (by omega) (by omega), bt_lo hv]
section
variable (l : Launch) (g : ma_G) (x : Bool) {h : ma_H} {a : Nat}
theorem m_at (ha : isr a) {lo hi : Nat} (hlo : lo < 2 ^ 64) (hhi : hi < 2 ^ 64) (e1 : h.2.1 a 0 = lN lo) (e2 : h.2.1 a 1 = lN hi) {i : Nat} (hi60 : i < 60) : ma_PM l g x me_Row_at [.ref a, .int (nI i)] GS h (fun v S' h' => v = some (.int (nI (rl lo hi i))) ∧ S' = GS ∧ h' = h) := by
  refine ma_PM_of (P := pr_Row_at) (by decide) rfl (Nat.le_of_ble_eq_true rfl) ?_
  show ma_J l g x none me_Row_at pr_Row_at _ 0 [some (.ref a), some (.int (nI i)), none, none] [] 0 0 GS h
  refine ma_run0 po_Row_at rfl rfl [] 60 ?_
  simp only [pa_Row_at, ma_go, ev_A, ev_B, ev_C, ev_D, Nat.reduceAdd, List.mem_cons, List.not_mem_nil, or_false, or_true, true_or, false_or, or_self, Nat.reduceEqDiff, reduceCtorEq, ↓reduceIte, List.length_cons, List.length_nil, Nat.reduceLT, Nat.reduceLeDiff, Nat.le_refl, implies_true, true_and, and_true, Option.toList, List.cons_append, List.nil_append, gs_row ha, e1, e2]
  refine ⟨fun q => ?_, fun q => ?_⟩
  · have := (nI_leI (by omega) (by omega)).mp q
    rw [nx_sub' (by omega), pk_mul, lu_at hhi (by omega), rl, if_neg (by omega)]
  · have : i < 32 := Nat.lt_of_not_le (fun z => q (nI_le z (by omega)))
    rw [pk_mul, lu_at hlo (by omega), rl, if_pos (by omega)]
theorem m_atf (ha : isr a) {n : Nat} {f : Nat → Nat} (hr : rf h a n f) (hn : n ≤ 60) {i : Nat} (hi : i < n) : ma_PM l g x me_Row_at [.ref a, .int (nI i)] GS h (fun v S' h' => v = some (.int (nI (f i))) ∧ S' = GS ∧ h' = h) := by
  obtain ⟨e, lo, hi2, h1, h2, h3, h4, r⟩ := hr
  rw [← r i hi]
  exact m_at l g x ha h1 h2 h3 h4 (by omega)
theorem m_append (ha : isr a) {n c : Nat} {f : Nat → Nat} (hr : rz h a n f) (hn : n < 60) (hc : c < 4) : ma_PM l g x me_Row_append [.ref a, .int (nI c)] GS h (fun v S' h' => v = none ∧ S' = GS ∧ onr h h' [a] ∧ rz h' a (n + 1) (up f n c)) := by
  obtain ⟨e3, lo, hi, hlo, hhi, e1, e2, r⟩ := hr
  refine ma_PM_of (P := pr_Row_append) (by decide) rfl (Nat.le_of_ble_eq_true rfl) ?_
  show ma_J l g x none me_Row_append pr_Row_append _ 0 [some (.ref a), some (.int (nI c))] [] 0 0 GS h
  refine ma_run0 po_Row_append rfl rfl [] 60 ?_
  simp only [pa_Row_append, ma_go, ev_A, ev_B, ev_C, ev_D, Nat.reduceAdd, List.mem_cons, List.not_mem_nil, or_false, or_true, true_or, false_or, or_self, Nat.reduceEqDiff, reduceCtorEq, ↓reduceIte, List.length_cons, List.length_nil, Nat.reduceLT, Nat.reduceLeDiff, Nat.le_refl, implies_true, true_and, and_true, Option.toList, List.cons_append, List.nil_append, gs_row ha, e1, e2, e3]
  refine ⟨fun q => ?_, fun q => ?_⟩
  · have h32 := (nI_leI (by omega) (by omega)).mp q
    rw [nx_sub' (by omega), pk_mul, ls_at hhi (by omega) hc]
    have o1 : onr h (ma_uL h a 1 (lN (hi + c * 2 ^ (2 * (n - 32))))) [a] := onr_uL (onr_rf h _) _ _ (by simp)
    refine ⟨onr_uI o1 _ _ (by simp), ?_, lo, hi + c * 2 ^ (2 * (n - 32)), ?_, ?_, ?_, ?_, fun k hk => ?_⟩
    · rw [uI_same]
      show h.1 a 2 + nI 1 = _
      rw [e3, nx_1]
    · rw [Nat.min_eq_right (by omega)] at hlo ⊢
      exact hlo
    · rw [show n + 1 - 32 = n - 32 + 1 by omega]
      exact bt_lt hhi hc
    · show (ma_uL h a 1 _).2.1 a 0 = _
      rw [uL_ne (by omega)]
      exact e1
    · exact uL_same _ _ _ _
    · unfold up
      by_cases e : k = n
      · rw [if_pos e, e, rl, if_neg (by omega), bt_at hhi hc (Nat.le_refl _), if_pos rfl]
      · rw [if_neg e, ← r k (by omega), rl, rl]
        by_cases k32 : k < 32
        · rw [if_pos k32, if_pos k32]
        · rw [if_neg k32, if_neg k32, bt_at hhi hc (by omega), if_neg (by omega)]
  · have h32 : n < 32 := Nat.lt_of_not_le (fun z => q (nI_le z (by omega)))
    rw [Nat.min_eq_left (by omega)] at hlo
    rw [pk_mul, ls_at hlo (by omega) hc]
    have o1 : onr h (ma_uL h a 0 (lN (lo + c * 2 ^ (2 * n)))) [a] := onr_uL (onr_rf h _) _ _ (by simp)
    refine ⟨onr_uI o1 _ _ (by simp), ?_, lo + c * 2 ^ (2 * n), hi, ?_, ?_, ?_, ?_, fun k hk => ?_⟩
    · rw [uI_same]
      show h.1 a 2 + nI 1 = _
      rw [e3, nx_1]
    · rw [Nat.min_eq_left (by omega)]
      exact bt_lt hlo hc
    · rw [show n + 1 - 32 = n - 32 by omega]
      exact hhi
    · exact uL_same _ _ _ _
    · show (ma_uL h a 0 _).2.1 a 1 = _
      rw [uL_ne (by omega)]
      exact e2
    · unfold up
      rw [rl, if_pos (by omega), bt_at hlo hc (by omega)]
      by_cases e : k = n
      · rw [if_pos e, if_pos e]
      · rw [if_neg e, if_neg e, ← r k (by omega), rl, if_pos (by omega)]
theorem m_become (ha : isr a) {v1 v2 : Int64} {n : Int32} : ma_PM l g x me_Row_become [.ref a, .long v1, .long v2, .int n] GS h (fun v S' h' => v = none ∧ S' = GS ∧ onr h h' [a] ∧ h'.2.1 a 0 = v1 ∧ h'.2.1 a 1 = v2 ∧ h'.1 a 2 = n) := by
  refine ma_PM_of (P := pr_Row_become) (by decide) rfl (Nat.le_of_ble_eq_true rfl) ?_
  show ma_J l g x none me_Row_become pr_Row_become _ 0 [some (.ref a), some (.long v1), none, some (.long v2), none, some (.int n)] [] 0 0 GS h
  refine ma_run0 po_Row_become rfl rfl [] 60 ?_
  simp only [pa_Row_become, ma_go, ev_A, ev_B, ev_C, ev_D, Nat.reduceAdd, List.mem_cons, List.not_mem_nil, or_false, or_true, true_or, false_or, or_self, Nat.reduceEqDiff, reduceCtorEq, ↓reduceIte, List.length_cons, List.length_nil, Nat.reduceLT, Nat.reduceLeDiff, Nat.le_refl, implies_true, true_and, and_true, Option.toList, List.cons_append, List.nil_append, gs_row ha]
  refine ⟨onr_uI (onr_uL (onr_uL (onr_rf h _) _ _ (by simp)) _ _ (by simp)) _ _ (by simp), ?_, uL_same _ _ _ _, uI_same _ _ _ _⟩
  show (ma_uL _ a 1 _).2.1 a 0 = _
  rw [uL_ne (by omega)]
  exact uL_same _ _ _ _
/-- f with the letters of k from i on behind the first n -/
def ap (f k : Nat → Nat) (n i : Nat) : Nat → Nat := fun j => if j < n then f j else k (i + (j - n))
theorem rz_congr {h : ma_H} {a n : Nat} {f k : Nat → Nat} (e : ∀ j, j < n → f j = k j) (hz : rz h a n f) : rz h a n k := by
  obtain ⟨e3, lo, hi, hlo, hhi, e1, e2, r⟩ := hz
  exact ⟨e3, lo, hi, hlo, hhi, e1, e2, fun j hj => by rw [r j hj, e j hj]⟩
theorem m_appendPart (ha : isr a) {b : Nat} (hb : isr b) (hab : b ≠ a) {n N : Nat} {f k : Nat → Nat} (hr : rz h a n f) (hk : rf h b N k) (hN : N ≤ 60) {i j : Nat} (hij : i ≤ j) (hj : j ≤ N) (hn : n + (j - i) ≤ 60) : ma_PM l g x me_Row_appendPart [.ref a, .ref b, .int (nI i), .int (nI j)] GS h (fun v S' h' => v = none ∧ S' = GS ∧ onr h h' [a] ∧ rz h' a (n + (j - i)) (ap f k n i)) := by
  refine ma_PM_of (P := pr_Row_appendPart) (by decide) rfl (Nat.le_of_ble_eq_true rfl) ?_
  show ma_J l g x none me_Row_appendPart pr_Row_appendPart _ 0 [some (.ref a), some (.ref b), some (.int (nI i)), some (.int (nI j)), none] [] 0 0 GS h
  have loop : ∀ m d h', i + d + m = j → onr h h' [a] → rz h' a (n + d) (ap f k n i) → ma_J l g x none me_Row_appendPart pr_Row_appendPart (fun v S' h' => v = none ∧ S' = GS ∧ onr h h' [a] ∧ rz h' a (n + (j - i)) (ap f k n i)) 2 [some (.ref a), some (.ref b), some (.int (nI i)), some (.int (nI j)), some (.int (nI (i + d)))] [] 0 0 GS h' := by
    intro m
    induction m with
    | zero =>
      intro d h' hd ho hz
      have e : i + d = j := by omega
      refine ma_run0 po_Row_appendPart rfl rfl [2] 60 ?_
      simp only [pa_Row_appendPart, ma_go, ev_A, ev_B, ev_C, ev_D, Nat.reduceAdd, List.mem_cons, List.not_mem_nil, or_false, or_true, true_or, false_or, or_self, Nat.reduceEqDiff, reduceCtorEq, ↓reduceIte, List.length_cons, List.length_nil, Nat.reduceLT, Nat.reduceLeDiff, Nat.le_refl, implies_true, true_and, and_true, Option.toList, List.cons_append, List.nil_append, gs_row ha, gs_row hb]
      rw [e]
      refine ⟨fun _ => ⟨ho, ?_⟩, fun q => absurd (nI_le (Nat.le_refl _) (by omega)) q⟩
      rw [show n + (j - i) = n + d by omega]
      exact hz
    | succ m ih =>
      intro d h' hd ho hz
      have hk' := rf_onr ho (by simp; exact hab) hk
      refine ma_run0 po_Row_appendPart rfl rfl [2] 60 ?_
      simp only [pa_Row_appendPart, ma_go, ev_A, ev_B, ev_C, ev_D, Nat.reduceAdd, List.mem_cons, List.not_mem_nil, or_false, or_true, true_or, false_or, or_self, Nat.reduceEqDiff, reduceCtorEq, ↓reduceIte, List.length_cons, List.length_nil, Nat.reduceLT, Nat.reduceLeDiff, Nat.le_refl, implies_true, true_and, and_true, Option.toList, List.cons_append, List.nil_append, gs_row ha, gs_row hb]
      refine ⟨fun q => absurd q (nI_ge (by omega) (by omega)), fun _ => ?_⟩
      refine ma_callD mt_Row_at rfl rfl (Nat.le_of_ble_eq_true rfl) (Nat.le_refl _) (Nat.le_refl _) (m_atf l g x hb hk' hN (by omega)) ?_
      simp only [pa_Row_appendPart, ma_go, ev_A, ev_B, ev_C, ev_D, Nat.reduceAdd, List.mem_cons, List.not_mem_nil, or_false, or_true, true_or, false_or, or_self, Nat.reduceEqDiff, reduceCtorEq, ↓reduceIte, List.length_cons, List.length_nil, Nat.reduceLT, Nat.reduceLeDiff, Nat.le_refl, implies_true, true_and, and_true, Option.toList, List.cons_append, List.nil_append, gs_row ha, gs_row hb]
      refine ma_callP mt_Row_append rfl rfl (Nat.le_of_ble_eq_true rfl) (Nat.le_refl _) (Nat.le_refl _) (m_append l g x ha hz (by omega) (rf_lt hk' (by omega))) ?_
      intro v S' h2 hpost
      obtain ⟨rfl, rfl, o2, z2⟩ := hpost
      simp only [pa_Row_appendPart, ma_go, ev_A, ev_B, ev_C, ev_D, Nat.reduceAdd, List.mem_cons, List.not_mem_nil, or_false, or_true, true_or, false_or, or_self, Nat.reduceEqDiff, reduceCtorEq, ↓reduceIte, List.length_cons, List.length_nil, Nat.reduceLT, Nat.reduceLeDiff, Nat.le_refl, implies_true, true_and, and_true, Option.toList, List.cons_append, List.nil_append]
      rw [nx_1]
      refine ih (d + 1) h2 (by omega) (onr_tr ho o2) (rz_congr (fun q hq => ?_) z2)
      unfold up ap
      by_cases e : q = n + d
      · rw [if_pos e, if_neg (by omega), show i + (q - n) = i + d by omega]
      · rw [if_neg e]
  refine ma_run0 po_Row_appendPart rfl rfl [2] 60 ?_
  simp only [pa_Row_appendPart, ma_go, ev_A, ev_B, ev_C, ev_D, Nat.reduceAdd, List.mem_cons, List.not_mem_nil, or_false, or_true, true_or, false_or, or_self, Nat.reduceEqDiff, reduceCtorEq, ↓reduceIte, List.length_cons, List.length_nil, Nat.reduceLT, Nat.reduceLeDiff, Nat.le_refl, implies_true, true_and, and_true, Option.toList, List.cons_append, List.nil_append]
  exact loop (j - i) 0 h (by omega) (onr_rf h _) (rz_congr (fun q hq => (if_pos (by omega)).symm) hr)
end
