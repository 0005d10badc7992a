/-! the class's Decoding.mendColumn -/
def co (cl sd : Nat → Nat) (b c : Nat) : Nat → Nat := fun s => if cl (16 * b + s) = 1 then sd (4 * (16 * b + s) + c) else 0
def cw (b c s : Nat) (w : Nat → Nat) (o : Nat → Int32) (k : Nat) : Int32 := if 40 * b ≤ k ∧ k < 40 * b + 40 ∧ (k - 40 * b) % 4 = c ∧ (k - 40 * b) / 4 < s then nI (w ((k - 40 * b) / 4)) else o k
def ht (cl sd w : Nat → Nat) (b c : Nat) : Nat → Bool := fun s => (cl (16 * b + s) == 1) && !(w s == co cl sd b c s)
theorem dst_on {h h' : ma_H} {L : List Nat} (ho : on h h' L) {n fx dr : Nat} {cl sd : Nat → Nat} (h1 : 175 ∉ L) (h2 : 179 ∉ L) (h3 : 180 ∉ L) (hd : dst h n cl sd fx dr) : dst h' n cl sd fx dr := by
  obtain ⟨d1, d2, d3, d4, d5⟩ := hd
  unfold dst
  rw [ho.2 175 h1]
  exact ⟨d1, d2, d3, ar_on ho h2 d4, ar_on ho h3 d5⟩
theorem dst_4 {h : ma_H} {n fx dr : Nat} {cl sd : Nat → Nat} (v : Int32) (hd : dst h n cl sd fx dr) : dst (ma_uI h 175 4 v) n cl sd fx dr := by
  obtain ⟨d1, d2, d3, d4, d5⟩ := hd
  have o : on h (ma_uI h 175 4 v) [175] := on_uI (on_rf h _) _ _ (by simp)
  exact ⟨by rw [uI_ne (by omega)]; exact d1, by rw [uI_ne (by omega)]; exact d2, by rw [uI_ne (by omega)]; exact d3, ar_on o (by decide) d4, ar_on o (by decide) d5⟩
abbrev kJ (l : Launch) (g : ma_G) (x : Bool) (Q : ma_P) : ma_K := ma_J l g x none me_Dec_mendColumn pr_Dec_mendColumn Q
section
variable {l : Launch} {g : ma_G} {x : Bool} {Q : ma_P} {n fx dr b c : Nat} {cl sd w : Nat → Nat}
theorem mk_set {h0 : ma_H} (hp : pt_ok h0) (hb : b < 4) (hc : c < 4) (hcl : ∀ k, k < 64 → cl k < 1000) (hd : dst h0 n cl sd fx dr)
    (hK : ∀ h, on h0 h [164, 165] → ar h 164 16 (co cl sd b c) → az h 165 16 (gn cl b) → kJ l g x Q 34 [some (.ref 175), some (.int (nI b)), some (.int (nI c)), none, none] [] 0 0 GS h) :
    ∀ m s h, s + m = 16 → on h0 h [164, 165] → ar h 164 s (co cl sd b c) → az h 165 s (gn cl b) → kJ l g x Q 2 [some (.ref 175), some (.int (nI b)), some (.int (nI c)), some (.int (nI s)), none] [] 0 0 GS h := by
  intro m
  induction m with
  | zero =>
    intro s h hs ho ha hz
    have e : s = 16 := by omega
    subst e
    have t := ma_J.less (ls' := [some (.ref 175), some (.int (nI b)), some (.int (nI c)), some (.int (nI 16)), none]) (hK h ho ha hz) ⟨rfl, rfl, rfl, trivial⟩
    refine ma_run0 po_Dec_mendColumn rfl rfl [2, 34] 80 ?_
    simp only [pa_Dec_mendColumn, ma_go, ev_A, ev_B, ev_C, ev_D, Nat.reduceAdd, List.mem_cons, List.not_mem_nil, or_false, or_true, true_or, false_or, or_self, Nat.reduceEqDiff, reduceCtorEq, ↓reduceIte, List.length_cons, List.length_nil, Nat.reduceLT, Nat.reduceLeDiff, Nat.le_refl, implies_true, true_and, and_true, Option.toList, List.cons_append, List.nil_append]
    exact ⟨fun _ => t, fun q => absurd (nI_le (Nat.le_refl _) (by omega)) q⟩
  | succ m ih =>
    intro s h hs ho ha hz
    have hp' := on_pt ho hp
    have d' := dst_on ho (by decide) (by decide) (by decide) hd
    have c1 := hcl (16 * b + s) (by omega)
    have v1 := d'.2.2.2.1 (16 * b + s) (by omega)
    have v2 := d'.2.2.2.2 (4 * (16 * b + s) + c) (by omega)
    have t1 := ma_in_of (i := 16 * b + s) gs_179 (by omega) (by decide)
    have t2 := ma_in_of (i := 4 * (16 * b + s) + c) gs_180 (by omega) (by decide)
    have go : ∀ q : Bool, q = gn cl b s → ∀ h2, (on h h2 [164, 165] ∧ h2.1 164 s = nI (if q = true then 0 else sd (4 * (16 * b + s) + c)) ∧ h2.1 165 s = nI (zb q) ∧ (∀ k, k ≠ s → h2.1 164 k = h.1 164 k) ∧ ∀ k, k ≠ s → h2.1 165 k = h.1 165 k) → kJ l g x Q 2 [some (.ref 175), some (.int (nI b)), some (.int (nI c)), some (.int (nI (s + 1))), none] [] 0 0 GS h2 := by
      intro q hq h2 ⟨o2, a1, a2, a3, a4⟩
      refine ih (s + 1) h2 (by omega) (on_tr ho o2) (fun k hk => ?_) (fun k hk => ?_)
      · by_cases e : k = s
        · rw [e, a1, hq]
          unfold gn co
          by_cases e1 : cl (16 * b + s) = 1
          · rw [e1]; rfl
          · rw [if_neg e1, if_pos (by simp [e1])]
        · rw [a3 k e]; exact ha k (by omega)
      · by_cases e : k = s
        · rw [e, a2, hq]
        · rw [a4 k e]; exact hz k (by omega)
    refine ma_run0 po_Dec_mendColumn rfl rfl [2, 34] 80 ?_
    simp only [pa_Dec_mendColumn, ma_go, ev_A, ev_B, ev_C, ev_D, Nat.reduceAdd, List.mem_cons, List.not_mem_nil, or_false, or_true, true_or, false_or, or_self, Nat.reduceEqDiff, reduceCtorEq, ↓reduceIte, List.length_cons, List.length_nil, Nat.reduceLT, Nat.reduceLeDiff, Nat.le_refl, implies_true, true_and, and_true, Option.toList, List.cons_append, List.nil_append, gs_175, gs_163, pt_Dec hp']
    rw [Int32.mul_comm (nI b), pk_mul, nI_add, Int32.mul_comm (nI (16 * b + s)), pk_mul, nI_add, nI_clamp (n := 16 * b + s) (by omega), nI_clamp (n := 4 * (16 * b + s) + c) (by omega), v1, v2]
    refine ⟨fun q => absurd q (nI_ge (by omega) (by omega)), fun _ => ⟨t2, t1, fun q => ?_, fun q => ?_⟩⟩
    · have e1 := (nI_eq (by omega) (by omega)).mp q
      refine ma_callP mt_Col_set rfl rfl (Nat.le_of_ble_eq_true rfl) (Nat.le_refl _) (Nat.le_refl _) (m_set l g x hp' (b := false) (by omega)) ?_
      intro v S' h2 hpost
      obtain ⟨rfl, rfl, hh⟩ := hpost
      simp only [pa_Dec_mendColumn, ma_go, ev_A, ev_B, ev_C, ev_D, Nat.reduceAdd, List.mem_cons, List.not_mem_nil, or_false, or_true, true_or, false_or, or_self, Nat.reduceEqDiff, reduceCtorEq, ↓reduceIte, List.length_cons, List.length_nil, Nat.reduceLT, Nat.reduceLeDiff, Nat.le_refl, implies_true, true_and, and_true, Option.toList, List.cons_append, List.nil_append]
      rw [nx_1]
      exact ma_J.less (go false (by unfold gn; rw [e1]; rfl) h2 hh) ⟨rfl, rfl, rfl, rfl, trivial⟩
    · have e1 : ¬ cl (16 * b + s) = 1 := fun z => q (by rw [z])
      refine ma_callP mt_Col_set rfl rfl (Nat.le_of_ble_eq_true rfl) (Nat.le_refl _) (Nat.le_refl _) (m_set l g x hp' (b := true) (by omega)) ?_
      intro v S' h2 hpost
      obtain ⟨rfl, rfl, hh⟩ := hpost
      simp only [pa_Dec_mendColumn, ma_go, ev_A, ev_B, ev_C, ev_D, Nat.reduceAdd, List.mem_cons, List.not_mem_nil, or_false, or_true, true_or, false_or, or_self, Nat.reduceEqDiff, reduceCtorEq, ↓reduceIte, List.length_cons, List.length_nil, Nat.reduceLT, Nat.reduceLeDiff, Nat.le_refl, implies_true, true_and, and_true, Option.toList, List.cons_append, List.nil_append]
      rw [nx_1]
      exact ma_J.less (go true (by unfold gn; simp [e1]) h2 hh) ⟨rfl, rfl, rfl, rfl, trivial⟩
end
