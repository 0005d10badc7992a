/-! shuffle of the reference -/
def sb (f : Nat → Int32) (k o i j : Nat) : Int32 := if 60 * k ≤ j ∧ j < 60 * k + i then vp_nar .byte (f (60 * o + (j - 60 * k))) else if 60 * o ≤ j ∧ j < 60 * o + i then vp_nar .byte (f (60 * k + (j - 60 * o))) else f j
theorem sb_s {H : ma_H} {f : Nat → Int32} {k o i : Nat} (hi : i < 60) (hH : ∀ j, H.1 187 j = sb f k o i j) (j : Nat) : (ma_uI (ma_uI H 187 (60 * k + i) (vp_nar .byte (H.1 187 (60 * o + i)))) 187 (60 * o + i) (vp_nar .byte (H.1 187 (60 * k + i)))).1 187 j = sb f k o (i + 1) j := by
  have e1 : H.1 187 (60 * o + i) = f (60 * o + i) := by
    rw [hH]
    unfold sb
    rw [if_neg (by omega), if_neg (by omega)]
  have e2 : H.1 187 (60 * k + i) = f (60 * k + i) := by
    rw [hH]
    unfold sb
    rw [if_neg (by omega), if_neg (by omega)]
  rw [e1, e2]
  by_cases a : j = 60 * o + i
  · rw [a, uI_same]
    unfold sb
    by_cases q : k = o
    · rw [if_pos (by omega), q, show 60 * o + (60 * o + i - 60 * o) = 60 * o + i by omega]
    · rw [if_neg (by omega), if_pos (by omega), show 60 * k + (60 * o + i - 60 * o) = 60 * k + i by omega]
  · rw [uI_ne (fun z => a z.2)]
    by_cases b : j = 60 * k + i
    · rw [b, uI_same]
      unfold sb
      rw [if_pos (by omega), show 60 * o + (60 * k + i - 60 * k) = 60 * o + i by omega]
    · rw [uI_ne (fun z => b z.2), hH j]
      unfold sb
      by_cases c : 60 * k ≤ j ∧ j < 60 * k + i
      · rw [if_pos c, if_pos (show 60 * k ≤ j ∧ j < 60 * k + (i + 1) by omega)]
      · rw [if_neg c, if_neg (show ¬ (60 * k ≤ j ∧ j < 60 * k + (i + 1)) by omega)]
        by_cases d : 60 * o ≤ j ∧ j < 60 * o + i
        · rw [if_pos d, if_pos (by omega)]
        · rw [if_neg d, if_neg (by omega)]
abbrev hJ (l : Launch) (g : ma_G) (x : Bool) (Q : ma_P) : ma_K := ma_J l g x none me_Mod_shuffle pr_Mod_shuffle Q
section
variable {l : Launch} {g : ma_G} {x : Bool} {Q : ma_P}
theorem ms_swap {h0 : ma_H} (hp : pt_ok h0) {k o : Nat} (hk : k < 90) (ho : o < 90) {sd : Int32} {v : Int64}
    (hK : ∀ h, on h0 h [187] → (∀ j, h.1 187 j = sb (h0.1 187) k o 60 j) → hJ l g x Q 76 [some (.ref 184), some (.int sd), some (.long v), none, some (.int (nI k)), some (.int (nI o)), none, none] [] 0 0 GS h) :
    ∀ m i h y, i + m = 60 → on h0 h [187] → (∀ j, h.1 187 j = sb (h0.1 187) k o i j) → hJ l g x Q 37 [some (.ref 184), some (.int sd), some (.long v), none, some (.int (nI k)), some (.int (nI o)), some (.int (nI i)), y] [] 0 0 GS h := by
  intro m
  induction m with
  | zero =>
    intro i h y hi oh h8
    have e : i = 60 := by omega
    subst e
    have t := ma_J.less (ls' := [some (.ref 184), some (.int sd), some (.long v), none, some (.int (nI k)), some (.int (nI o)), some (.int (nI 60)), y]) (hK h oh h8) ⟨rfl, rfl, rfl, rfl, rfl, trivial⟩
    refine ma_run0 po_Mod_shuffle rfl rfl [37, 40, 76] 80 ?_
    simp only [pa_Mod_shuffle, ma_go, ev_A, ev_B, ev_C, ev_D, Nat.reduceAdd, List.mem_cons, List.not_mem_nil, or_false, or_true, true_or, false_or, or_self, Nat.reduceEqDiff, reduceCtorEq, ↓reduceIte, List.length_cons, List.length_nil, Nat.reduceLT, Nat.reduceLeDiff, Nat.le_refl, implies_true, true_and, and_true, Option.toList, List.cons_append, List.nil_append]
    exact ⟨fun _ => t, fun q => absurd (nI_le (Nat.le_refl _) (by omega)) q⟩
  | succ m ih =>
    intro i h y hi oh h8
    have hp' := on_pt oh hp
    have tk := ma_in_of (i := 60 * k + i) gs_187 (by omega) (by decide)
    have to := ma_in_of (i := 60 * o + i) gs_187 (by omega) (by decide)
    have i2 := ih (i + 1) (ma_uI (ma_uI h 187 (60 * k + i) (vp_nar .byte (h.1 187 (60 * o + i)))) 187 (60 * o + i) (vp_nar .byte (h.1 187 (60 * k + i)))) (some (.int (h.1 187 (60 * k + i)))) (by omega) (on_uI (on_uI oh _ _ (by simp)) _ _ (by simp)) (sb_s (by omega) h8)
    refine ma_run0 po_Mod_shuffle rfl rfl [37, 76] 80 ?_
    simp only [pa_Mod_shuffle, ma_go, ev_A, ev_B, ev_C, ev_D, Nat.reduceAdd, List.mem_cons, List.not_mem_nil, or_false, or_true, true_or, false_or, or_self, Nat.reduceEqDiff, reduceCtorEq, ↓reduceIte, List.length_cons, List.length_nil, Nat.reduceLT, Nat.reduceLeDiff, Nat.le_refl, implies_true, true_and, and_true, Option.toList, List.cons_append, List.nil_append, gs_184, pt_Mod hp', uI_s]
    simp only [pk_mul, nI_add]
    rw [nI_clamp (n := 60 * k + i) (by omega), nI_clamp (n := 60 * o + i) (by omega)]
    exact ⟨fun q => absurd q (nI_ge (by omega) (by omega)), fun _ => ⟨tk, to, tk, to, i2⟩⟩
end
section
variable (l : Launch) (g : ma_G) (x : Bool) {h : ma_H}
theorem m_mshuffleN {s : Int32} (hs : ¬ nI 0 ≤ s) : ma_PM l g x me_Mod_shuffle [.ref 184, .int s] GS h (fun v S' h' => v = some (.int (nI 0)) ∧ S' = GS ∧ h' = ma_uI h 184 0 (nI 0)) := by
  refine ma_PM_of (P := pr_Mod_shuffle) (by decide) rfl (Nat.le_of_ble_eq_true rfl) ?_
  show ma_J l g x none me_Mod_shuffle pr_Mod_shuffle _ 0 [some (.ref 184), some (.int s), none, none, none, none, none, none] [] 0 0 GS h
  refine ma_run0 po_Mod_shuffle rfl rfl [7] 60 ?_
  simp only [pa_Mod_shuffle, ma_go, ev_A, ev_B, ev_C, ev_D, Nat.reduceAdd, List.mem_cons, List.not_mem_nil, or_false, or_true, true_or, false_or, or_self, Nat.reduceEqDiff, reduceCtorEq, ↓reduceIte, List.length_cons, List.length_nil, Nat.reduceLT, Nat.reduceLeDiff, Nat.le_refl, implies_true, true_and, and_true, Option.toList, List.cons_append, List.nil_append, gs_184]
  exact fun q => absurd q hs
theorem m_mshuffle (hp : pt_ok h) {R s : Nat} {N : Nat → Nat} {F : Nat → Nat → Nat} (hR : R ≤ 90) (hs : s < 2 ^ 31) (eR : h.1 184 4 = nI R) (hm : md h R N F) : ma_PM l g x me_Mod_shuffle [.ref 184, .int (nI s)] GS h (fun v S' h' => v = some (.int (nI 1)) ∧ S' = GS ∧ on h h' [184, 187, 188] ∧ (∀ k, k ≠ 0 → h'.1 184 k = h.1 184 k) ∧ md h' R (fun i => N (sh (R - 1) s (fun i => i) i)) (fun i => F (sh (R - 1) s (fun i => i) i))) := by
  refine ma_PM_of (P := pr_Mod_shuffle) (by decide) rfl (Nat.le_of_ble_eq_true rfl) ?_
  show ma_J l g x none me_Mod_shuffle pr_Mod_shuffle _ 0 [some (.ref 184), some (.int (nI s)), none, none, none, none, none, none] [] 0 0 GS h
  generalize hQ : (fun (v : Option Value) (S' : ma_S) (h' : ma_H) => v = some (.int (nI 1)) ∧ S' = GS ∧ on h h' [184, 187, 188] ∧ (∀ k, k ≠ 0 → h'.1 184 k = h.1 184 k) ∧ md h' R (fun i => N (sh (R - 1) s (fun i => i) i)) (fun i => F (sh (R - 1) s (fun i => i) i))) = Q
  have o1 : on h (ma_uI h 184 0 (nI 0)) [184] := on_uI (on_rf h _) _ _ (by simp)
  have fin : ∀ H k u v w y, on (ma_uI h 184 0 (nI 0)) H [187, 188] → md H R (fun i => N (sh (R - 1) s (fun i => i) i)) (fun i => F (sh (R - 1) s (fun i => i) i)) → hJ l g x Q 96 [some (.ref 184), some (.int (nI s)), some (.long v), none, some (.int k), u, w, y] [] 0 0 GS H := by
    intro H k u v w y oH hH
    refine ma_run0 po_Mod_shuffle rfl rfl [] 60 ?_
    simp only [pa_Mod_shuffle, ma_go, ev_A, ev_B, ev_C, ev_D, Nat.reduceAdd, List.mem_cons, List.not_mem_nil, or_false, or_true, true_or, false_or, or_self, Nat.reduceEqDiff, reduceCtorEq, ↓reduceIte, List.length_cons, List.length_nil, Nat.reduceLT, Nat.reduceLeDiff, Nat.le_refl, implies_true, true_and, and_true, Option.toList, List.cons_append, List.nil_append]
    rw [← hQ]
    exact ⟨rfl, rfl, on_tr (on_mo o1 (by simp)) (on_mo oH (by simp)), fun k hk => by rw [oH.2 184 (by decide), uI_ne (fun z => hk z.2)], hH⟩
  have loop : ∀ k v p H u w y, (k < R ∨ k = 0) → v < 2 ^ 31 → on (ma_uI h 184 0 (nI 0)) H [187, 188] → md H R (fun i => N (p i)) (fun i => F (p i)) → sh k v p = sh (R - 1) s (fun i => i) → hJ l g x Q 15 [some (.ref 184), some (.int (nI s)), some (.long (lN v)), none, some (.int (nI k)), u, w, y] [] 0 0 GS H := by
    intro k
    induction k with
    | zero =>
      intro v p H u w y _ hv oH hH he
      have t := fin H (nI 0) u (lN v) w y oH (by rw [← he]; exact hH)
      refine ma_run0 po_Mod_shuffle rfl rfl [15, 17, 96] 60 ?_
      simp only [pa_Mod_shuffle, ma_go, ev_A, ev_B, ev_C, ev_D, Nat.reduceAdd, List.mem_cons, List.not_mem_nil, or_false, or_true, true_or, false_or, or_self, Nat.reduceEqDiff, reduceCtorEq, ↓reduceIte, List.length_cons, List.length_nil, Nat.reduceLT, Nat.reduceLeDiff, Nat.le_refl, implies_true, true_and, and_true, Option.toList, List.cons_append, List.nil_append]
      exact ⟨fun _ => t, fun q => absurd (nI_le (Nat.le_refl 0) (by decide)) q⟩
    | succ k ih =>
      intro v p H u w y hk hv oH hH he
      have ol := Nat.mod_lt (lcg v / 65536) (show k + 2 > 0 by omega)
      have ol2 : lcg v / 65536 % (k + 1 + 1) < k + 2 := ol
      have lv := lcg_lt v
      have ev : (v * 1103515245 + 12345) % 2147483648 = lcg v := rfl
      have nl1 : ¬ lN 2147483648 = 0 := ll_ne0 (by decide) (by decide)
      have nl2 : ¬ lN 65536 = 0 := ll_ne0 (by decide) (by decide)
      have nl3 : ¬ lN (k + 1 + 1) = 0 := ll_ne0 (by omega) (by omega)
      have hpH := on_pt oH (on_pt o1 hp)
      obtain ⟨o, ho⟩ : ∃ o, o = lcg v / 65536 % (k + 2) := ⟨_, rfl⟩
      have eo : lcg v / 65536 % (k + 1 + 1) = o := ho.symm
      rw [← ho] at ol
      have sw37 : hJ l g x Q 37 [some (.ref 184), some (.int (nI s)), some (.long (lN (lcg v))), none, some (.int (nI (k + 1))), some (.int (nI (o))), some (.int (nI 0)), y] [] 0 0 GS H := by
        refine ms_swap hpH (show k + 1 < 90 by omega) (show o < 90 by omega) (fun H2 o2 e2 => ?_) 60 0 H y (by omega) (on_rf _ _) (fun j => by unfold sb; rw [if_neg (by omega), if_neg (by omega)])
        have e188 : H2.1 188 = H.1 188 := o2.2 188 (by decide)
        have tk := ma_in_of (i := k + 1) gs_188 (by omega) (by decide)
        have to := ma_in_of (i := o) gs_188 (by omega) (by decide)
        have o3 : on H2 (ma_uI (ma_uI H2 188 (k + 1) (H2.1 188 (o))) 188 (o) (H2.1 188 (k + 1))) [188] := on_uI (on_uI (on_rf _ _) _ _ (by simp)) _ _ (by simp)
        have i2 := ih (lcg v) (sw p (k + 1) (o)) (ma_uI (ma_uI H2 188 (k + 1) (H2.1 188 (o))) 188 (o) (H2.1 188 (k + 1))) (some (.int (nI (o)))) (some (.int (H2.1 188 (k + 1)))) none (by omega) (by omega) (on_tr oH (on_tr (on_mo o2 (by simp)) (on_mo o3 (by simp)))) (fun i hi => ?_) (by rw [ho]; exact he)
        · refine ma_run0 po_Mod_shuffle rfl rfl [15] 80 ?_
          simp only [pa_Mod_shuffle, ma_go, ev_A, ev_B, ev_C, ev_D, Nat.reduceAdd, List.mem_cons, List.not_mem_nil, or_false, or_true, true_or, false_or, or_self, Nat.reduceEqDiff, reduceCtorEq, ↓reduceIte, List.length_cons, List.length_nil, Nat.reduceLT, Nat.reduceLeDiff, Nat.le_refl, implies_true, true_and, and_true, Option.toList, List.cons_append, List.nil_append, gs_184, pt_Mod (on_pt o2 hpH), uI_s]
          rw [nI_clamp (n := k + 1) (by omega), nI_clamp (n := o) (by omega), nx_m1]
          exact ⟨tk, to, tk, to, i2⟩
        · have ko : k + 1 < R := by omega
          have oo : o < R := by omega
          have val : ∀ i' q, i' < R → (∀ j, j < 60 → H2.1 187 (60 * i + j) = vp_nar .byte (H.1 187 (60 * i' + j)) ∨ H2.1 187 (60 * i + j) = H.1 187 (60 * i' + j)) → q = p i' → N q ≤ 60 ∧ ∀ j, j < N q → F q j < 4 ∧ H2.1 187 (60 * i + j) = nI (F q j) := by
            intro i' q hi' hb hq
            obtain ⟨m1, m2, m3⟩ : N (p i') ≤ 60 ∧ H.1 188 i' = nI (N (p i')) ∧ ∀ j, j < N (p i') → F (p i') j < 4 ∧ H.1 187 (60 * i' + j) = nI (F (p i') j) := hH i' hi'
            subst hq
            refine ⟨m1, fun j hj => ⟨(m3 j hj).1, ?_⟩⟩
            rcases hb j (by omega) with z | z
            · rw [z, (m3 j hj).2, nb4' _ (m3 j hj).1]
            · rw [z, (m3 j hj).2]
          have e187 : (ma_uI (ma_uI H2 188 (k + 1) (H2.1 188 (o))) 188 (o) (H2.1 188 (k + 1))).1 187 = H2.1 187 := o3.2 187 (by decide)
          rw [e187]
          dsimp only
          by_cases a : i = k + 1
          · have hs : sw p (k + 1) (o) i = p (o) := if_pos a
            obtain ⟨v1, v2⟩ := val (o) _ oo (fun j hj => Or.inl (by rw [e2]; unfold sb; rw [if_pos (by omega), a]; rw [show 60 * (k + 1) + j - 60 * (k + 1) = j by omega])) rfl
            rw [hs]
            refine ⟨v1, ?_, v2⟩
            by_cases b : i = o
            · rw [← b, uI_same, e188, ← a]
              exact (hH i (by omega)).2.1
            · rw [uI_ne (fun z => b z.2), a, uI_same, e188]
              exact (hH _ oo).2.1
          · by_cases b : i = o
            · have hs : sw p (k + 1) (o) i = p (k + 1) := by
                unfold sw
                rw [if_neg a, if_pos b]
              obtain ⟨v1, v2⟩ := val (k + 1) _ ko (fun j hj => Or.inl (by rw [e2]; unfold sb; rw [if_neg (by omega), if_pos (by omega)]; rw [show 60 * i + j - 60 * o = j by omega])) rfl
              rw [hs]
              refine ⟨v1, ?_, v2⟩
              rw [show o = i from b.symm, uI_same, e188]
              exact (hH _ ko).2.1
            · have hs : sw p (k + 1) (o) i = p i := by
                unfold sw
                rw [if_neg a, if_neg b]
              obtain ⟨v1, v2⟩ := val i _ hi (fun j hj => Or.inr (by rw [e2]; unfold sb; rw [if_neg (by omega), if_neg (by omega)])) rfl
              rw [hs]
              refine ⟨v1, ?_, v2⟩
              rw [uI_ne (fun z => b z.2), uI_ne (fun z => a z.2), e188]
              exact (hH i hi).2.1
      refine ma_run0 po_Mod_shuffle rfl rfl [15, 37, 96] 80 ?_
      simp only [pa_Mod_shuffle, ma_go, ev_A, ev_B, ev_C, ev_D, Nat.reduceAdd, List.mem_cons, List.not_mem_nil, or_false, or_true, true_or, false_or, or_self, Nat.reduceEqDiff, reduceCtorEq, ↓reduceIte, List.length_cons, List.length_nil, Nat.reduceLT, Nat.reduceLeDiff, Nat.le_refl, implies_true, true_and, and_true, Option.toList, List.cons_append, List.nil_append]
      rw [ll_mul, ll_add, ll_rem (by omega) (by omega), ev, ll_div (by omega) (by omega), nx_1, ll_i2l (by omega), ll_rem (by omega) (by omega), nx_l2i, eo]
      exact ⟨fun q => absurd ((nI_leI (by omega) (by omega)).mp q) (by omega), fun _ => ⟨nl1, nl2, nl3, sw37⟩⟩
  refine ma_run0 po_Mod_shuffle rfl rfl [7] 60 ?_
  simp only [pa_Mod_shuffle, ma_go, ev_A, ev_B, ev_C, ev_D, Nat.reduceAdd, List.mem_cons, List.not_mem_nil, or_false, or_true, true_or, false_or, or_self, Nat.reduceEqDiff, reduceCtorEq, ↓reduceIte, List.length_cons, List.length_nil, Nat.reduceLT, Nat.reduceLeDiff, Nat.le_refl, implies_true, true_and, and_true, Option.toList, List.cons_append, List.nil_append, gs_184]
  refine ⟨fun _ => ?_, fun q => absurd (nI_le (Nat.zero_le _) (by omega)) q⟩
  have e4 : (ma_uI h 184 0 (nI 0)).1 184 4 = nI R := by rw [uI_ne (by omega)]; exact eR
  refine ma_run0 po_Mod_shuffle rfl rfl [15] 60 ?_
  simp only [pa_Mod_shuffle, ma_go, ev_A, ev_B, ev_C, ev_D, Nat.reduceAdd, List.mem_cons, List.not_mem_nil, or_false, or_true, true_or, false_or, or_self, Nat.reduceEqDiff, reduceCtorEq, ↓reduceIte, List.length_cons, List.length_nil, Nat.reduceLT, Nat.reduceLeDiff, Nat.le_refl, implies_true, true_and, and_true, Option.toList, List.cons_append, List.nil_append, gs_184, e4]
  rw [ll_i2l hs]
  have m0 : md (ma_uI h 184 0 (nI 0)) R N F := md_on o1 (by decide) (by decide) hm
  by_cases r0 : R = 0
  · subst r0
    have t := fin (ma_uI h 184 0 (nI 0)) (nI 0 - nI 1) none (lN s) none none (on_rf _ _) (fun k hk => by omega)
    refine ma_run0 po_Mod_shuffle rfl rfl [17, 96] 60 ?_
    simp only [pa_Mod_shuffle, ma_go, ev_A, ev_B, ev_C, ev_D, Nat.reduceAdd, List.mem_cons, List.not_mem_nil, or_false, or_true, true_or, false_or, or_self, Nat.reduceEqDiff, reduceCtorEq, ↓reduceIte, List.length_cons, List.length_nil, Nat.reduceLT, Nat.reduceLeDiff, Nat.le_refl, implies_true, true_and, and_true, Option.toList, List.cons_append, List.nil_append]
    exact ⟨fun _ => t, fun q => absurd (by decide +kernel) q⟩
  · rw [nx_sub' (by omega)]
    exact loop (R - 1) s (fun i => i) _ none none none (by omega) hs (on_rf _ _) m0 rfl
end
